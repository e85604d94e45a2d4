section
variable {I : rl_M} {J : Nat → Nat → Int64} {r N n : Nat} {Q : mc_Q} {x4 : Int32} {x5 x6 : Value} {u : mc_U} {x y v : Int32}
theorem rb_P.set {b d : rl_A} {k : Nat} {v : Int32} (h : rb_P b d) (hv : 0 ≤ v.toInt ∧ v.toInt < 16777216) : rb_P (fun j => if j = k then v else b j) (fun j => if j = k then v else d j) := by
  intro j hj
  show (if j = k then v else b j) = (if j = k then v else d j) ∧ 0 ≤ (if j = k then v else d j).toInt ∧ (if j = k then v else d j).toInt < 16777216
  by_cases hk : j = k
  · rw [if_pos hk, if_pos hk]
    exact ⟨rfl, hv⟩
  · simp only [if_neg hk]
    exact h j hj
theorem rb_B.set {b d : rl_A} {m n : Int32} {k : Nat} {v : Int32} (h : rb_B m b n d) (hv : 0 ≤ v.toInt ∧ v.toInt ≤ 255) : rb_B m (fun j => if j = k then v else b j) n (fun j => if j = k then v else d j) := by
  refine ⟨h.1, h.2.1, fun j hj => ?_⟩
  show (if j = k then v else b j) = (if j = k then v else d j) ∧ 0 ≤ (if j = k then v else d j).toInt ∧ (if j = k then v else d j).toInt ≤ 255
  by_cases hk : j = k
  · rw [if_pos hk, if_pos hk]
    exact ⟨rfl, hv⟩
  · simp only [if_neg hk]
    exact h.2.2 j hj
theorem i3_col (v : Int32) : 0 ≤ (v &&& Int32.ofNat 16777215).toInt ∧ (v &&& Int32.ofNat 16777215).toInt < 16777216 := by
  have h := i3_andm v (Int32.ofNat 16777215) (by decide)
  have e : (Int32.ofNat 16777215).toInt = 16777215 := rfl
  omega
theorem i3_byt (v : Int32) : 0 ≤ (v &&& 255).toInt ∧ (v &&& 255).toInt ≤ 255 := by
  have h := i3_andm v 255 (by decide)
  have e : (255 : Int32).toInt = 255 := rfl
  omega
theorem cw_paint (hr : is_R r) (hw : I r 2 = I 85 2) (hh : I r 3 = I 85 3) (hd : (I 85 2).toInt ≤ 8 ∧ (I 85 3).toInt ≤ 8) (h1 : pl_in (I 85) x y → Q (.inl (some (.int 0))) (mc_up I 75 (pl_k x y) (v &&& Int32.ofNat 16777215), J, rf_w r, sh_w N, n)) (h2 : ¬ pl_in (I 85) x y → Q (.inl (some (.int 1))) (I, J, rf_w r, sh_w N, 0)) :
    mc_WP (mc_en 40 [.ref 10, .int x, .int y, .int v] (I, J, rf_w r, sh_w N, n)) Q := by
  refine bk_40_0 (mc_inl ?_)
  refine bk_12_0 (mc_inl ?_)
  refine cc_rplace hr hw hh (fun c => ?_) (fun c => h2 c)
  refine bk_12_6 ⟨(pl_vp _ hd c).1, ?_⟩
  exact bk_40_7 (h1 c)
theorem cm_paint (hd : (I 85 2).toInt ≤ 8 ∧ (I 85 3).toInt ≤ 8 ∧ 1 ≤ (I 85 2).toInt ∧ 1 ≤ (I 85 3).toInt) (h1 : pl_in (I 85) x y → Q (.inl none) (mc_up (mc_up I 84 0 0) 92 (pl_k x y) (v &&& Int32.ofNat 16777215), J, rf_w r, sh_w N, n)) (h2 : ¬ pl_in (I 85) x y → Q (.inl none) (mc_up I 84 0 1, J, rf_w r, sh_w N, n)) :
    mc_WP (mc_en 111 [.ref 84, .int x, .int y, .int v] (I, J, rf_w r, sh_w N, n)) Q := by
  refine bk_111_0 (mc_inl ?_)
  refine cm_place hd (fun c => ?_) (fun c => bk_111_6 ⟨fun _ => h2 c, fun q => absurd rfl q⟩)
  refine bk_111_6 ⟨fun q => absurd q (by decide), fun _ => ⟨(pl_vp _ ⟨hd.1, hd.2.1⟩ c).2.1, ?_⟩⟩
  rw [pl_kk]
  exact h1 c
theorem lc_paint (hI : rl_I r I) (hN : N ≤ 3074) (hx : 0 ≤ x4.toInt ∧ x4.toInt + 6 ≤ N) (hu : u.1 + 3 ≤ 601024 ∧ u.2 + 18 ≤ 7293000) (hn : lw_nx N x4 u Q) : mc_WP (42, 1115, [.ref 1, .ref 10, .ref 84, .ref 105, .int x4, x5, x6], [], (I, J, rf_w r, sh_w N, n), u) Q := by
  obtain ⟨hr, hR, hB, hP, hC, hK⟩ := hI
  have hw : I r 2 = I 85 2 := by have := hR.2.2.1; rw [rl_v0 _ _ _ _ (by decide)] at this; exact this
  have hh : I r 3 = I 85 3 := by have := hR.2.2.2.1; rw [rl_v0 _ _ _ _ (by decide)] at this; exact this
  have hd := hR.2.2.2.2
  refine bk_42_1115 ⟨lw_i hN hx (by decide), lw_i hN hx (by decide), lw_i hN hx (by decide), by omega, by omega, mc_inl ?_⟩
  refine cw_paint hr hw hh ⟨hd.1.2, hd.2.1.2⟩ (fun c => ?_) (fun c => ?_)
  · refine bk_42_1137 ⟨lw_i hN hx (by decide), lw_i hN hx (by decide), lw_i hN hx (by decide), by show u.1 + 1 + 0 ≤ _; omega, by show u.2 + 6 + 0 ≤ _; omega, mc_inl ?_⟩
    simp only [up_ne (show ¬ 1 = 75 by decide)]
    have c' : pl_in (mc_up I 75 (pl_k (I 1 (x4 + 1).toNatClampNeg) (I 1 (x4 + 2).toNatClampNeg)) (I 1 (x4 + 3).toNatClampNeg &&& Int32.ofNat 16777215) 85) (I 1 (x4 + 1).toNatClampNeg) (I 1 (x4 + 2).toNatClampNeg) := by rw [up_ne (by decide)]; exact c
    refine cm_paint (by rw [up_ne (by decide)]; exact ⟨hd.1.2, hd.2.1.2, hd.1.1, hd.2.1.1⟩) (fun _ => ?_) (fun q => absurd c' q)
    refine bk_42_1161 ⟨by show u.1 + 1 + 0 ≤ _; omega, by show u.2 + 6 + 0 ≤ _; omega, fun _ => hn r _ _ _ _ _ _ ⟨hr, ?_, ?_, ?_, ?_, ?_⟩ (by show u.1 + 1 ≤ _; omega) (by show u.2 + 6 ≤ _; omega), fun q => absurd (by rw [up_ne (by decide), up_at]) q⟩
    all_goals rcases is_Rb hr with rfl | rfl
    all_goals (try simp only [up_ne, up_ar, up_at, up_v1, up_v2, not_false_eq_true, Nat.reduceAdd, Nat.reduceLT, Nat.reduceLeDiff, Nat.reduceEqDiff, reduceCtorEq, Nat.zero_ne_one, Nat.one_ne_zero])
    all_goals first | exact hR | exact hB | exact hC | (repeat' first | exact hK | refine rb_K.up ?_ (by first | (left; decide) | (right; decide)))
    all_goals simp only [up_row, up_ne (show ¬ 92 = 84 by decide), up_ne (show ¬ 92 = 75 by decide)]; exact hP.set (i3_col _)
  · refine bk_42_1137 ⟨lw_i hN hx (by decide), lw_i hN hx (by decide), lw_i hN hx (by decide), by show u.1 + 1 + 0 ≤ _; omega, by show u.2 + 6 + 0 ≤ _; omega, mc_inl ?_⟩
    refine cm_paint ⟨hd.1.2, hd.2.1.2, hd.1.1, hd.2.1.1⟩ (fun q => absurd q c) (fun _ => ?_)
    refine bk_42_1161 ⟨by show u.1 + 1 + 0 ≤ _; omega, by show u.2 + 6 + 0 ≤ _; omega, fun _ => hn r _ _ _ _ _ _ ⟨hr, ?_, ?_, ?_, ?_, ?_⟩ (by show u.1 + 1 ≤ _; omega) (by show u.2 + 6 ≤ _; omega), fun q => absurd up_at q⟩
    all_goals rcases is_Rb hr with rfl | rfl
    all_goals (try simp only [up_ne, up_ar, up_at, up_v1, up_v2, not_false_eq_true, Nat.reduceAdd, Nat.reduceLT, Nat.reduceLeDiff, Nat.reduceEqDiff, reduceCtorEq, Nat.zero_ne_one, Nat.one_ne_zero])
    all_goals first | exact hR | exact hB | exact hP | exact hC | (repeat' first | exact hK | refine rb_K.up ?_ (by first | (left; decide) | (right; decide)))
/-- spoil -/
def by_in (n k : Int32) : Prop := 0 ≤ k.toInt ∧ k.toInt < n.toInt
theorem cc_spoil (hB : rb_B (I 54 1) (I 55) (I 84 10) (I 91)) (h1 : by_in (I 84 10) x → Q (.inl (some (.int 1))) (mc_up I 55 x.toNatClampNeg (v &&& 255), J, rf_w r, sh_w N, n)) (h2 : ¬ by_in (I 84 10) x → Q (.inl (some (.int 0))) (I, J, rf_w r, sh_w N, n)) :
    mc_WP (mc_en 48 [.ref 10, .int x, .int v] (I, J, rf_w r, sh_w N, n)) Q := by
  obtain ⟨g1, g2, g3⟩ := hB
  unfold by_in at h1 h2
  refine bk_48_0 ⟨fun c => h2 ?_, fun c => ⟨fun d => h2 ?_, fun d => ⟨?_, h1 ?_⟩⟩⟩
  all_goals (try rw [g1] at d)
  · simp only [Int32.lt_iff_toInt_lt, Int32.le_iff_toInt_le, Int32.toInt_add, Int32.toInt_sub, Int32.toInt_mul, Int.bmod_def, i3_m1, i3_0, i3_1, i3_2, i3_3, i3_4, i3_5, i3_6, i3_7, i3_8, i3_9, i3_10, i3_15, i3_16, i3_19, i3_20, i3_24, i3_31, i3_33, i3_44, i3_45, i3_48, i3_49, i3_59, i3_63, i3_64, i3_80, i3_100, i3_192, i3_200000, i3_254, i3_255, i3_256, i3_800, i3_16777215, i3_16777216] at c; omega
  · simp only [Int32.lt_iff_toInt_lt, Int32.le_iff_toInt_le, Int32.toInt_add, Int32.toInt_sub, Int32.toInt_mul, Int.bmod_def, i3_m1, i3_0, i3_1, i3_2, i3_3, i3_4, i3_5, i3_6, i3_7, i3_8, i3_9, i3_10, i3_15, i3_16, i3_19, i3_20, i3_24, i3_31, i3_33, i3_44, i3_45, i3_48, i3_49, i3_59, i3_63, i3_64, i3_80, i3_100, i3_192, i3_200000, i3_254, i3_255, i3_256, i3_800, i3_16777215, i3_16777216] at c d; omega
  · rw [vp_iff]; simp only [Int32.lt_iff_toInt_lt, Int32.le_iff_toInt_le, Int32.toInt_add, Int32.toInt_sub, Int32.toInt_mul, Int.bmod_def, i3_m1, i3_0, i3_1, i3_2, i3_3, i3_4, i3_5, i3_6, i3_7, i3_8, i3_9, i3_10, i3_15, i3_16, i3_19, i3_20, i3_24, i3_31, i3_33, i3_44, i3_45, i3_48, i3_49, i3_59, i3_63, i3_64, i3_80, i3_100, i3_192, i3_200000, i3_254, i3_255, i3_256, i3_800, i3_16777215, i3_16777216] at c d; omega
  · simp only [Int32.lt_iff_toInt_lt, Int32.le_iff_toInt_le, Int32.toInt_add, Int32.toInt_sub, Int32.toInt_mul, Int.bmod_def, i3_m1, i3_0, i3_1, i3_2, i3_3, i3_4, i3_5, i3_6, i3_7, i3_8, i3_9, i3_10, i3_15, i3_16, i3_19, i3_20, i3_24, i3_31, i3_33, i3_44, i3_45, i3_48, i3_49, i3_59, i3_63, i3_64, i3_80, i3_100, i3_192, i3_200000, i3_254, i3_255, i3_256, i3_800, i3_16777215, i3_16777216] at c d; omega
theorem cm_spoil (g2 : 0 ≤ (I 84 10).toInt ∧ (I 84 10).toInt ≤ 800) (h1 : by_in (I 84 10) x → Q (.inl (some (.int 1))) (mc_up (mc_up I 84 0 0) 91 x.toNatClampNeg (v &&& 255), J, rf_w r, sh_w N, n)) (h2 : ¬ by_in (I 84 10) x → Q (.inl (some (.int 0))) (mc_up I 84 0 0, J, rf_w r, sh_w N, n)) :
    mc_WP (mc_en 93 [.ref 84, .int x, .int v] (I, J, rf_w r, sh_w N, n)) Q := by
  unfold by_in at h1 h2
  refine bk_93_0 ⟨fun c => h2 ?_, fun c => ⟨fun d => ⟨?_, h1 ?_⟩, fun d => h2 ?_⟩⟩
  · simp only [Int32.lt_iff_toInt_lt, Int32.le_iff_toInt_le, Int32.toInt_add, Int32.toInt_sub, Int32.toInt_mul, Int.bmod_def, i3_m1, i3_0, i3_1, i3_2, i3_3, i3_4, i3_5, i3_6, i3_7, i3_8, i3_9, i3_10, i3_15, i3_16, i3_19, i3_20, i3_24, i3_31, i3_33, i3_44, i3_45, i3_48, i3_49, i3_59, i3_63, i3_64, i3_80, i3_100, i3_192, i3_200000, i3_254, i3_255, i3_256, i3_800, i3_16777215, i3_16777216] at c; omega
  · rw [vp_iff]; simp only [Int32.lt_iff_toInt_lt, Int32.le_iff_toInt_le, Int32.toInt_add, Int32.toInt_sub, Int32.toInt_mul, Int.bmod_def, i3_m1, i3_0, i3_1, i3_2, i3_3, i3_4, i3_5, i3_6, i3_7, i3_8, i3_9, i3_10, i3_15, i3_16, i3_19, i3_20, i3_24, i3_31, i3_33, i3_44, i3_45, i3_48, i3_49, i3_59, i3_63, i3_64, i3_80, i3_100, i3_192, i3_200000, i3_254, i3_255, i3_256, i3_800, i3_16777215, i3_16777216] at c d; omega
  · simp only [Int32.lt_iff_toInt_lt, Int32.le_iff_toInt_le, Int32.toInt_add, Int32.toInt_sub, Int32.toInt_mul, Int.bmod_def, i3_m1, i3_0, i3_1, i3_2, i3_3, i3_4, i3_5, i3_6, i3_7, i3_8, i3_9, i3_10, i3_15, i3_16, i3_19, i3_20, i3_24, i3_31, i3_33, i3_44, i3_45, i3_48, i3_49, i3_59, i3_63, i3_64, i3_80, i3_100, i3_192, i3_200000, i3_254, i3_255, i3_256, i3_800, i3_16777215, i3_16777216] at c d; omega
  · simp only [Int32.lt_iff_toInt_lt, Int32.le_iff_toInt_le, Int32.toInt_add, Int32.toInt_sub, Int32.toInt_mul, Int.bmod_def, i3_m1, i3_0, i3_1, i3_2, i3_3, i3_4, i3_5, i3_6, i3_7, i3_8, i3_9, i3_10, i3_15, i3_16, i3_19, i3_20, i3_24, i3_31, i3_33, i3_44, i3_45, i3_48, i3_49, i3_59, i3_63, i3_64, i3_80, i3_100, i3_192, i3_200000, i3_254, i3_255, i3_256, i3_800, i3_16777215, i3_16777216] at c d; omega
theorem lc_spoil (hI : rl_I r I) (hN : N ≤ 3074) (hx : 0 ≤ x4.toInt ∧ x4.toInt + 6 ≤ N) (hu : u.1 + 3 ≤ 601024 ∧ u.2 + 18 ≤ 7293000) (hn : lw_nx N x4 u Q) : mc_WP (42, 885, [.ref 1, .ref 10, .ref 84, .ref 105, .int x4, x5, x6], [], (I, J, rf_w r, sh_w N, n), u) Q := by
  obtain ⟨hr, hR, hB, hP, hC, hK⟩ := hI
  refine bk_42_885 ⟨lw_i hN hx (by decide), lw_i hN hx (by decide), by omega, by omega, mc_inl ?_⟩
  refine cc_spoil hB (fun c => ?_) (fun c => ?_)
  · refine bk_42_901 ⟨lw_i hN hx (by decide), lw_i hN hx (by decide), by omega, by omega, mc_inl ?_⟩
    simp only [up_ne (show ¬ 1 = 55 by decide)]
    refine cm_spoil (by rw [up_ne (by decide)]; exact hB.2.1) (fun _ => ?_) (fun q => absurd (by rw [up_ne (by decide)]; exact c) q)
    refine bk_42_917 ⟨fun _ => hn r _ _ _ _ _ _ ⟨hr, ?_, ?_, ?_, ?_, ?_⟩ (by omega) (by omega), fun q => absurd rfl q⟩
    all_goals rcases is_Rb hr with rfl | rfl
    all_goals (try simp only [up_ne, up_ar, up_at, up_v1, up_v2, not_false_eq_true, Nat.reduceAdd, Nat.reduceLT, Nat.reduceLeDiff, Nat.reduceEqDiff, reduceCtorEq, Nat.zero_ne_one, Nat.one_ne_zero])
    all_goals first | exact hR | exact hP | exact hC | (repeat' first | exact hK | refine rb_K.up ?_ (by first | (left; decide) | (right; decide)))
    all_goals simp only [up_row, up_ne (show ¬ 91 = 84 by decide), up_ne (show ¬ 91 = 55 by decide)]; exact hB.set (i3_byt _)
  · refine bk_42_901 ⟨lw_i hN hx (by decide), lw_i hN hx (by decide), by omega, by omega, mc_inl ?_⟩
    refine cm_spoil hB.2.1 (fun q => absurd q c) (fun _ => ?_)
    refine bk_42_917 ⟨fun _ => hn r _ _ _ _ _ _ ⟨hr, ?_, ?_, ?_, ?_, ?_⟩ (by omega) (by omega), fun q => absurd rfl q⟩
    all_goals rcases is_Rb hr with rfl | rfl
    all_goals (try simp only [up_ne, up_ar, up_at, up_v1, up_v2, not_false_eq_true, Nat.reduceAdd, Nat.reduceLT, Nat.reduceLeDiff, Nat.reduceEqDiff, reduceCtorEq, Nat.zero_ne_one, Nat.one_ne_zero])
    all_goals first | exact hR | exact hB | exact hP | exact hC | (repeat' first | exact hK | refine rb_K.up ?_ (by first | (left; decide) | (right; decide)))
end
