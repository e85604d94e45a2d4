section
variable {I : rl_M} {J : Nat → Nat → Int64} {r N n : Nat} {Q : mc_Q} {x4 : Int32} {x5 x6 : Value} {u : mc_U} {x y : Int32}
theorem i3_andm (x m : Int32) (hm : 0 ≤ m.toInt) : 0 ≤ (x &&& m).toInt ∧ (x &&& m).toInt ≤ m.toInt := by
  have h1 : (x &&& m).toInt = ((x &&& m).toBitVec).toInt := rfl
  have h2 : m.toInt = (m.toBitVec).toInt := rfl
  rw [h2] at hm
  have h3 : 2 * m.toBitVec.toNat < 2 ^ 32 := by
    have := BitVec.toInt_eq_toNat_cond m.toBitVec
    have h4 := m.toBitVec.isLt
    split at this
    · assumption
    · omega
  have h5 : (x &&& m).toBitVec.toNat ≤ m.toBitVec.toNat := by
    rw [Int32.toBitVec_and, BitVec.toNat_and]
    exact Nat.and_le_right
  rw [h1, h2, BitVec.toInt_eq_toNat_of_lt (by omega), BitVec.toInt_eq_toNat_of_lt h3]
  omega
theorem up_row {I : rl_M} {a k : Nat} {v : Int32} : mc_up I a k v a = fun j => if j = k then v else I a j := by
  funext j
  unfold mc_up
  by_cases h : j = k
  · rw [if_pos ⟨rfl, h⟩, if_pos h]
  · rw [if_neg (fun q => h q.2), if_neg h]
/-- a place of the reel -/
def pl_in (hs : rl_A) (x y : Int32) : Prop := (0 ≤ x.toInt ∧ x.toInt < (hs 2).toInt) ∧ 0 ≤ y.toInt ∧ y.toInt < (hs 3).toInt
theorem cc_inside {w h : Int32} (h1 : (0 ≤ x.toInt ∧ x.toInt < w.toInt) ∧ 0 ≤ y.toInt ∧ y.toInt < h.toInt → Q (.inl (some (.int 1))) (I, J, rf_w r, sh_w N, n)) (h2 : ¬ ((0 ≤ x.toInt ∧ x.toInt < w.toInt) ∧ 0 ≤ y.toInt ∧ y.toInt < h.toInt) → Q (.inl (some (.int 0))) (I, J, rf_w r, sh_w N, n)) :
    mc_WP (mc_en 52 [.int x, .int y, .int w, .int h] (I, J, rf_w r, sh_w N, n)) Q := by
  refine bk_52_0 ⟨fun c => h2 ?_, fun c => ⟨fun d => h2 ?_, fun d => ⟨fun e => h2 ?_, fun e => ⟨fun f => h2 ?_, fun f => h1 ?_⟩⟩⟩⟩
  · simp only [Int32.lt_iff_toInt_lt, Int32.le_iff_toInt_le, Int32.toInt_add, Int32.toInt_sub, Int32.toInt_mul, Int.bmod_def, i3_m1, i3_0, i3_1, i3_2, i3_3, i3_4, i3_5, i3_6, i3_7, i3_8, i3_9, i3_10, i3_15, i3_16, i3_19, i3_20, i3_24, i3_31, i3_33, i3_44, i3_45, i3_48, i3_49, i3_59, i3_63, i3_64, i3_80, i3_100, i3_192, i3_200000, i3_254, i3_255, i3_256, i3_800, i3_16777215, i3_16777216] at c; omega
  · simp only [Int32.lt_iff_toInt_lt, Int32.le_iff_toInt_le, Int32.toInt_add, Int32.toInt_sub, Int32.toInt_mul, Int.bmod_def, i3_m1, i3_0, i3_1, i3_2, i3_3, i3_4, i3_5, i3_6, i3_7, i3_8, i3_9, i3_10, i3_15, i3_16, i3_19, i3_20, i3_24, i3_31, i3_33, i3_44, i3_45, i3_48, i3_49, i3_59, i3_63, i3_64, i3_80, i3_100, i3_192, i3_200000, i3_254, i3_255, i3_256, i3_800, i3_16777215, i3_16777216] at c d; omega
  · simp only [Int32.lt_iff_toInt_lt, Int32.le_iff_toInt_le, Int32.toInt_add, Int32.toInt_sub, Int32.toInt_mul, Int.bmod_def, i3_m1, i3_0, i3_1, i3_2, i3_3, i3_4, i3_5, i3_6, i3_7, i3_8, i3_9, i3_10, i3_15, i3_16, i3_19, i3_20, i3_24, i3_31, i3_33, i3_44, i3_45, i3_48, i3_49, i3_59, i3_63, i3_64, i3_80, i3_100, i3_192, i3_200000, i3_254, i3_255, i3_256, i3_800, i3_16777215, i3_16777216] at c d e; omega
  · simp only [Int32.lt_iff_toInt_lt, Int32.le_iff_toInt_le, Int32.toInt_add, Int32.toInt_sub, Int32.toInt_mul, Int.bmod_def, i3_m1, i3_0, i3_1, i3_2, i3_3, i3_4, i3_5, i3_6, i3_7, i3_8, i3_9, i3_10, i3_15, i3_16, i3_19, i3_20, i3_24, i3_31, i3_33, i3_44, i3_45, i3_48, i3_49, i3_59, i3_63, i3_64, i3_80, i3_100, i3_192, i3_200000, i3_254, i3_255, i3_256, i3_800, i3_16777215, i3_16777216] at c d e f; omega
  · simp only [Int32.lt_iff_toInt_lt, Int32.le_iff_toInt_le, Int32.toInt_add, Int32.toInt_sub, Int32.toInt_mul, Int.bmod_def, i3_m1, i3_0, i3_1, i3_2, i3_3, i3_4, i3_5, i3_6, i3_7, i3_8, i3_9, i3_10, i3_15, i3_16, i3_19, i3_20, i3_24, i3_31, i3_33, i3_44, i3_45, i3_48, i3_49, i3_59, i3_63, i3_64, i3_80, i3_100, i3_192, i3_200000, i3_254, i3_255, i3_256, i3_800, i3_16777215, i3_16777216] at c d e f; omega
theorem cc_rplace (hr : is_R r) (hw : I r 2 = I 85 2) (hh : I r 3 = I 85 3) (h1 : pl_in (I 85) x y → Q (.inl none) (I, J, rf_w r, sh_w N, n)) (h2 : ¬ pl_in (I 85) x y → Q (.inr 1) (I, J, rf_w r, sh_w N, 0)) :
    mc_WP (mc_en 17 [.ref 10, .int x, .int y] (I, J, rf_w r, sh_w N, n)) Q := by
  unfold pl_in at h1 h2
  refine bk_17_0 hr ⟨fun c => h2 ?_, fun c => ⟨fun d => h2 ?_, fun d => ⟨fun e => h2 ?_, fun e => ⟨fun f => h2 ?_, fun f => h1 ?_⟩⟩⟩⟩
  all_goals (try rw [hw] at d)
  all_goals (try rw [hh] at f)
  · simp only [Int32.lt_iff_toInt_lt, Int32.le_iff_toInt_le, Int32.toInt_add, Int32.toInt_sub, Int32.toInt_mul, Int.bmod_def, i3_m1, i3_0, i3_1, i3_2, i3_3, i3_4, i3_5, i3_6, i3_7, i3_8, i3_9, i3_10, i3_15, i3_16, i3_19, i3_20, i3_24, i3_31, i3_33, i3_44, i3_45, i3_48, i3_49, i3_59, i3_63, i3_64, i3_80, i3_100, i3_192, i3_200000, i3_254, i3_255, i3_256, i3_800, i3_16777215, i3_16777216] at c; omega
  · simp only [Int32.lt_iff_toInt_lt, Int32.le_iff_toInt_le, Int32.toInt_add, Int32.toInt_sub, Int32.toInt_mul, Int.bmod_def, i3_m1, i3_0, i3_1, i3_2, i3_3, i3_4, i3_5, i3_6, i3_7, i3_8, i3_9, i3_10, i3_15, i3_16, i3_19, i3_20, i3_24, i3_31, i3_33, i3_44, i3_45, i3_48, i3_49, i3_59, i3_63, i3_64, i3_80, i3_100, i3_192, i3_200000, i3_254, i3_255, i3_256, i3_800, i3_16777215, i3_16777216] at c d; omega
  · simp only [Int32.lt_iff_toInt_lt, Int32.le_iff_toInt_le, Int32.toInt_add, Int32.toInt_sub, Int32.toInt_mul, Int.bmod_def, i3_m1, i3_0, i3_1, i3_2, i3_3, i3_4, i3_5, i3_6, i3_7, i3_8, i3_9, i3_10, i3_15, i3_16, i3_19, i3_20, i3_24, i3_31, i3_33, i3_44, i3_45, i3_48, i3_49, i3_59, i3_63, i3_64, i3_80, i3_100, i3_192, i3_200000, i3_254, i3_255, i3_256, i3_800, i3_16777215, i3_16777216] at c d e; omega
  · simp only [Int32.lt_iff_toInt_lt, Int32.le_iff_toInt_le, Int32.toInt_add, Int32.toInt_sub, Int32.toInt_mul, Int.bmod_def, i3_m1, i3_0, i3_1, i3_2, i3_3, i3_4, i3_5, i3_6, i3_7, i3_8, i3_9, i3_10, i3_15, i3_16, i3_19, i3_20, i3_24, i3_31, i3_33, i3_44, i3_45, i3_48, i3_49, i3_59, i3_63, i3_64, i3_80, i3_100, i3_192, i3_200000, i3_254, i3_255, i3_256, i3_800, i3_16777215, i3_16777216] at c d e f; omega
  · simp only [Int32.lt_iff_toInt_lt, Int32.le_iff_toInt_le, Int32.toInt_add, Int32.toInt_sub, Int32.toInt_mul, Int.bmod_def, i3_m1, i3_0, i3_1, i3_2, i3_3, i3_4, i3_5, i3_6, i3_7, i3_8, i3_9, i3_10, i3_15, i3_16, i3_19, i3_20, i3_24, i3_31, i3_33, i3_44, i3_45, i3_48, i3_49, i3_59, i3_63, i3_64, i3_80, i3_100, i3_192, i3_200000, i3_254, i3_255, i3_256, i3_800, i3_16777215, i3_16777216] at c d e f; omega
theorem cm_place (hd : (I 85 2).toInt ≤ 8 ∧ (I 85 3).toInt ≤ 8 ∧ 1 ≤ (I 85 2).toInt ∧ 1 ≤ (I 85 3).toInt) (h1 : pl_in (I 85) x y → Q (.inl (some (.int 1))) (mc_up I 84 0 0, J, rf_w r, sh_w N, n)) (h2 : ¬ pl_in (I 85) x y → Q (.inl (some (.int 0))) (mc_up I 84 0 1, J, rf_w r, sh_w N, n)) :
    mc_WP (mc_en 109 [.ref 84, .int x, .int y] (I, J, rf_w r, sh_w N, n)) Q := by
  unfold pl_in at h1 h2
  refine bk_109_0 ⟨fun c => h2 ?_, fun c => ⟨fun d => ⟨fun e => h2 ?_, fun e => ⟨fun f => h1 ?_, fun f => h2 ?_⟩⟩, fun d => h2 ?_⟩⟩
  · simp only [Int32.lt_iff_toInt_lt, Int32.le_iff_toInt_le, Int32.toInt_add, Int32.toInt_sub, Int32.toInt_mul, Int.bmod_def, i3_m1, i3_0, i3_1, i3_2, i3_3, i3_4, i3_5, i3_6, i3_7, i3_8, i3_9, i3_10, i3_15, i3_16, i3_19, i3_20, i3_24, i3_31, i3_33, i3_44, i3_45, i3_48, i3_49, i3_59, i3_63, i3_64, i3_80, i3_100, i3_192, i3_200000, i3_254, i3_255, i3_256, i3_800, i3_16777215, i3_16777216] at c; omega
  · simp only [Int32.lt_iff_toInt_lt, Int32.le_iff_toInt_le, Int32.toInt_add, Int32.toInt_sub, Int32.toInt_mul, Int.bmod_def, i3_m1, i3_0, i3_1, i3_2, i3_3, i3_4, i3_5, i3_6, i3_7, i3_8, i3_9, i3_10, i3_15, i3_16, i3_19, i3_20, i3_24, i3_31, i3_33, i3_44, i3_45, i3_48, i3_49, i3_59, i3_63, i3_64, i3_80, i3_100, i3_192, i3_200000, i3_254, i3_255, i3_256, i3_800, i3_16777215, i3_16777216] at c d e; omega
  · simp only [Int32.lt_iff_toInt_lt, Int32.le_iff_toInt_le, Int32.toInt_add, Int32.toInt_sub, Int32.toInt_mul, Int.bmod_def, i3_m1, i3_0, i3_1, i3_2, i3_3, i3_4, i3_5, i3_6, i3_7, i3_8, i3_9, i3_10, i3_15, i3_16, i3_19, i3_20, i3_24, i3_31, i3_33, i3_44, i3_45, i3_48, i3_49, i3_59, i3_63, i3_64, i3_80, i3_100, i3_192, i3_200000, i3_254, i3_255, i3_256, i3_800, i3_16777215, i3_16777216] at c d e f; omega
  · simp only [Int32.lt_iff_toInt_lt, Int32.le_iff_toInt_le, Int32.toInt_add, Int32.toInt_sub, Int32.toInt_mul, Int.bmod_def, i3_m1, i3_0, i3_1, i3_2, i3_3, i3_4, i3_5, i3_6, i3_7, i3_8, i3_9, i3_10, i3_15, i3_16, i3_19, i3_20, i3_24, i3_31, i3_33, i3_44, i3_45, i3_48, i3_49, i3_59, i3_63, i3_64, i3_80, i3_100, i3_192, i3_200000, i3_254, i3_255, i3_256, i3_800, i3_16777215, i3_16777216] at c d e f; omega
  · simp only [Int32.lt_iff_toInt_lt, Int32.le_iff_toInt_le, Int32.toInt_add, Int32.toInt_sub, Int32.toInt_mul, Int.bmod_def, i3_m1, i3_0, i3_1, i3_2, i3_3, i3_4, i3_5, i3_6, i3_7, i3_8, i3_9, i3_10, i3_15, i3_16, i3_19, i3_20, i3_24, i3_31, i3_33, i3_44, i3_45, i3_48, i3_49, i3_59, i3_63, i3_64, i3_80, i3_100, i3_192, i3_200000, i3_254, i3_255, i3_256, i3_800, i3_16777215, i3_16777216] at c d; omega
def pl_k (x y : Int32) : Nat := (y * 8 + x).toNatClampNeg
theorem pl_vp (hs : rl_A) (hd : (hs 2).toInt ≤ 8 ∧ (hs 3).toInt ≤ 8) (h : pl_in hs x y) : vp_in (y * 8 + x) 64 ∧ vp_in (8 * y + x) 64 ∧ pl_k x y < 64 := by
  unfold pl_in at h
  unfold pl_k
  rw [vp_iff, vp_iff, i3_tn]
  simp only [Int32.lt_iff_toInt_lt, Int32.le_iff_toInt_le, Int32.toInt_add, Int32.toInt_sub, Int32.toInt_mul, Int.bmod_def, i3_m1, i3_0, i3_1, i3_2, i3_3, i3_4, i3_5, i3_6, i3_7, i3_8, i3_9, i3_10, i3_15, i3_16, i3_19, i3_20, i3_24, i3_31, i3_33, i3_44, i3_45, i3_48, i3_49, i3_59, i3_63, i3_64, i3_80, i3_100, i3_192, i3_200000, i3_254, i3_255, i3_256, i3_800, i3_16777215, i3_16777216]
  omega
theorem pl_kk : (8 * y + x).toNatClampNeg = pl_k x y := by
  unfold pl_k
  rw [Int32.mul_comm]
theorem cw_shown (hr : is_R r) (hw : I r 2 = I 85 2) (hh : I r 3 = I 85 3) (hd : (I 85 2).toInt ≤ 8 ∧ (I 85 3).toInt ≤ 8) (h1 : pl_in (I 85) x y → Q (.inl (some (.int 0))) (I, mc_up J 105 0 (I 12 (pl_k x y)).toInt64, rf_w r, sh_w N, n)) (h2 : ¬ pl_in (I 85) x y → Q (.inl (some (.int 1))) (I, J, rf_w r, sh_w N, 0)) :
    mc_WP (mc_en 39 [.ref 10, .int x, .int y, .ref 105] (I, J, rf_w r, sh_w N, n)) Q := by
  refine bk_39_0 (a3z := 1) rfl (mc_inl ?_)
  refine bk_11_0 (mc_inl ?_)
  refine cc_rplace hr hw hh (fun c => ?_) (fun c => h2 c)
  refine bk_11_6 ⟨(pl_vp _ hd c).1, ?_⟩
  exact bk_39_8 (a3z := 1) (b0z := 1) rfl rfl (by decide) ⟨by unfold vp_in; decide, h1 c⟩
theorem cm_shown (hd : (I 85 2).toInt ≤ 8 ∧ (I 85 3).toInt ≤ 8 ∧ 1 ≤ (I 85 2).toInt ∧ 1 ≤ (I 85 3).toInt) (h1 : pl_in (I 85) x y → Q (.inl (some (.int (I 93 (pl_k x y))))) (mc_up I 84 0 0, J, rf_w r, sh_w N, n)) (h2 : ¬ pl_in (I 85) x y → Q (.inl (some (.int 0))) (mc_up I 84 0 1, J, rf_w r, sh_w N, n)) :
    mc_WP (mc_en 110 [.ref 84, .int x, .int y] (I, J, rf_w r, sh_w N, n)) Q := by
  refine bk_110_0 (mc_inl ?_)
  refine cm_place hd (fun c => ?_) (fun c => bk_110_6 ⟨fun _ => h2 c, fun q => absurd rfl q⟩)
  refine bk_110_6 ⟨fun q => absurd q (by decide), fun _ => ⟨(pl_vp _ ⟨hd.1, hd.2.1⟩ c).2.1, ?_⟩⟩
  rw [pl_kk, up_ne (by decide)]
  exact h1 c
theorem lg_same (a : Int64) : lg_cmp a a = 0 := by
  unfold lg_cmp
  rw [if_neg (by rw [gt_iff_lt, Int64.lt_iff_toInt_lt]; omega), if_pos rfl]
theorem lc_shown (hI : rl_I r I) (hN : N ≤ 3074) (hx : 0 ≤ x4.toInt ∧ x4.toInt + 6 ≤ N) (hu : u.1 + 3 ≤ 601024 ∧ u.2 + 18 ≤ 7293000) (hn : lw_nx N x4 u Q) : mc_WP (42, 1047, [.ref 1, .ref 10, .ref 84, .ref 105, .int x4, x5, x6], [], (I, J, rf_w r, sh_w N, n), u) Q := by
  obtain ⟨hr, hR, hB, hP, hC, hK⟩ := hI
  have hw : I r 2 = I 85 2 := by have := hR.2.2.1; rw [rl_v0 _ _ _ _ (by decide)] at this; exact this
  have hh : I r 3 = I 85 3 := by have := hR.2.2.2.1; rw [rl_v0 _ _ _ _ (by decide)] at this; exact this
  have hd := hR.2.2.2.2
  refine bk_42_1047 ⟨lw_i hN hx (by decide), lw_i hN hx (by decide), by omega, by omega, mc_inl ?_⟩
  refine cw_shown hr hw hh ⟨hd.1.2, hd.2.1.2⟩ (fun c => ?_) (fun c => ?_)
  · refine bk_42_1064 ⟨lw_i hN hx (by decide), lw_i hN hx (by decide), by show u.1 + 1 + 0 ≤ _; omega, by show u.2 + 6 + 0 ≤ _; omega, mc_inl ?_⟩
    refine cm_shown ⟨hd.1.2, hd.2.1.2, hd.1.1, hd.2.1.1⟩ (fun _ => ?_) (fun q => absurd c q)
    refine bk_42_1082 ⟨by show u.1 + 1 + 0 ≤ _; omega, by show u.2 + 6 + 0 ≤ _; omega, fun _ => ⟨fun q => absurd rfl q, fun _ => ⟨fun _ => hn r _ _ _ _ _ _ ⟨hr, ?_, ?_, ?_, ?_, ?_⟩ (by show u.1 + 1 ≤ _; omega) (by show u.2 + 6 ≤ _; omega), fun q => absurd ?_ q⟩⟩, fun q => absurd up_at q⟩
    all_goals rcases is_Rb hr with rfl | rfl
    all_goals (try simp only [up_ne, up_ar, up_at, up_v1, up_v2, not_false_eq_true, Nat.reduceAdd, Nat.reduceLT, Nat.reduceLeDiff, Nat.reduceEqDiff, reduceCtorEq, Nat.zero_ne_one, Nat.one_ne_zero])
    all_goals first | exact hR | exact hB | exact hP | exact hC | (repeat' first | exact hK | refine rb_K.up ?_ (by first | (left; decide) | (right; decide)))
    all_goals rw [show mc_up J 105 0 (I 12 (pl_k _ _)).toInt64 105 0 = (I 12 (pl_k _ _)).toInt64 from if_pos ⟨rfl, rfl⟩, hC _ (pl_vp _ ⟨hd.1.2, hd.2.1.2⟩ c).2.2]; exact lg_same _
  · refine bk_42_1064 ⟨lw_i hN hx (by decide), lw_i hN hx (by decide), by show u.1 + 1 + 0 ≤ _; omega, by show u.2 + 6 + 0 ≤ _; omega, mc_inl ?_⟩
    refine cm_shown ⟨hd.1.2, hd.2.1.2, hd.1.1, hd.2.1.1⟩ (fun q => absurd q c) (fun _ => ?_)
    refine bk_42_1082 ⟨by show u.1 + 1 + 0 ≤ _; omega, by show u.2 + 6 + 0 ≤ _; omega, fun _ => ⟨fun _ => hn r _ _ _ _ _ _ ⟨hr, ?_, ?_, ?_, ?_, ?_⟩ (by show u.1 + 1 ≤ _; omega) (by show u.2 + 6 ≤ _; omega), fun q => absurd (show ¬ (1 : Int32) = 0 by decide) q⟩, fun q => absurd up_at q⟩
    all_goals rcases is_Rb hr with rfl | rfl
    all_goals (try simp only [up_ne, up_ar, up_at, up_v1, up_v2, not_false_eq_true, Nat.reduceAdd, Nat.reduceLT, Nat.reduceLeDiff, Nat.reduceEqDiff, reduceCtorEq, Nat.zero_ne_one, Nat.one_ne_zero])
    all_goals first | exact hR | exact hB | exact hP | exact hC | (repeat' first | exact hK | refine rb_K.up ?_ (by first | (left; decide) | (right; decide)))
end
