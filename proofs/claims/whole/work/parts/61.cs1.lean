section
variable {I : rl_M} {J : Nat → Nat → Int64} {r N n : Nat} {Q : mc_Q} {x4 : Int32} {x5 x6 : Value} {u : mc_U}
theorem up_ar {I : rl_M} {a k j : Nat} {v : Int32} (h : ¬ j = k) : mc_up I a k v a j = I a j := up_nk h
theorem up_v1 {I : rl_M} {a k r : Nat} {v : Int32} (h : a < r) : rl_v r (mc_up I a k v) = rl_v r I := up_v (Or.inl h)
theorem up_v2 {I : rl_M} {a k r : Nat} {v : Int32} (h : r + 20 ≤ a) : rl_v r (mc_up I a k v) = rl_v r I := up_v (Or.inr h)
theorem lc_frames (hI : rl_I r I) (hN : N ≤ 3074) (hx : 0 ≤ x4.toInt ∧ x4.toInt + 6 ≤ N) (hu : u.1 + 3 ≤ 601024 ∧ u.2 + 18 ≤ 7293000) (hn : lw_nx N x4 u Q) : mc_WP (42, 561, [.ref 1, .ref 10, .ref 84, .ref 105, .int x4, x5, x6], [], (I, J, rf_w r, sh_w N, n), u) Q := by
  obtain ⟨hr, hR, hB, hP, hC, hK⟩ := hI
  have e1 := hR.2.1
  rw [rl_v0 _ _ _ _ (by decide)] at e1
  refine bk_42_561 hr ⟨by omega, by omega, by omega, by omega, fun _ => hn r _ _ _ _ _ _ ⟨hr, ?_, ?_, ?_, ?_, ?_⟩ (by omega) (by omega), fun hne => absurd ?_ hne⟩
  all_goals rcases is_Rb hr with rfl | rfl
  all_goals (try simp only [up_ne, up_ar, up_at, up_v1, up_v2, not_false_eq_true, Nat.reduceAdd, Nat.reduceLT, Nat.reduceLeDiff, Nat.reduceEqDiff, reduceCtorEq, Nat.zero_ne_one, Nat.one_ne_zero])
  all_goals first | exact hR | exact hB | exact hP | exact hC | exact e1 | (repeat' first | exact hK | refine rb_K.up ?_ (by first | (left; decide) | (right; decide)))
theorem lc_wipe (hI : rl_I r I) (hN : N ≤ 3074) (hx : 0 ≤ x4.toInt ∧ x4.toInt + 6 ≤ N) (hu : u.1 + 3 ≤ 601024 ∧ u.2 + 18 ≤ 7293000) (hn : lw_nx N x4 u Q) : mc_WP (42, 872, [.ref 1, .ref 10, .ref 84, .ref 105, .int x4, x5, x6], [], (I, J, rf_w r, sh_w N, n), u) Q := by
  obtain ⟨hr, hR, hB, hP, hC, hK⟩ := hI
  have e1 := hB.1
  have hB' : rb_B 0 (I 55) 0 (I 91) := ⟨rfl, by decide, fun k hk => absurd hk (by show ¬ (k : Int) < 0; omega)⟩
  refine bk_42_872 ⟨by omega, by omega, by omega, by omega, fun _ => hn r _ _ _ _ _ _ ⟨hr, ?_, ?_, ?_, ?_, ?_⟩ (by omega) (by omega), fun hne => absurd ?_ hne⟩
  all_goals rcases is_Rb hr with rfl | rfl
  all_goals (try simp only [up_ne, up_ar, up_at, up_v1, up_v2, not_false_eq_true, Nat.reduceAdd, Nat.reduceLT, Nat.reduceLeDiff, Nat.reduceEqDiff, reduceCtorEq, Nat.zero_ne_one, Nat.one_ne_zero])
  all_goals first | exact hR | exact hB' | exact hP | exact hC | exact e1 | (repeat' first | exact hK | refine rb_K.up ?_ (by first | (left; decide) | (right; decide)))
theorem lc_cut (hI : rl_I r I) (hN : N ≤ 3074) (hx : 0 ≤ x4.toInt ∧ x4.toInt + 6 ≤ N) (hu : u.1 + 3 ≤ 601024 ∧ u.2 + 18 ≤ 7293000) (hn : lw_nx N x4 u Q) : mc_WP (42, 548, [.ref 1, .ref 10, .ref 84, .ref 105, .int x4, x5, x6], [], (I, J, rf_w r, sh_w N, n), u) Q := by
  obtain ⟨hr, hR, hB, hP, hC, hK⟩ := hI
  have e1 := hR.2.1
  rw [rl_v0 _ _ _ _ (by decide)] at e1
  refine bk_42_548 hr ⟨by omega, by omega, by omega, by omega, fun _ => hn r _ _ _ _ _ _ ⟨hr, ?_, ?_, ?_, ?_, ?_⟩ (by omega) (by omega), fun hne => absurd ?_ hne⟩
  · rw [show mc_up I r 4 0 = mc_up I (r + 0) 4 0 from rfl]
    rw [up_v (by have := is_Rb hr; omega), up_v (by have := is_Rb hr; omega), up_vo (by decide)]
    have hR' : rb_R (mc_up (rl_v r I) 0 4 0) 0 (I 85) (I 86) (I 87) := by
      obtain ⟨g1, g2, g3, g4, g5, g6, g7, g8, g9, g10⟩ := hR
      refine ⟨by decide, up_at, ?_, ?_, g5, g6, g7, g8, ⟨g9.1, ?_, ?_⟩, fun f hf => absurd hf (by show ¬ (f : Int) < 0; omega)⟩
      · rw [up_nk (by decide)]; exact g3
      · rw [up_nk (by decide)]; exact g4
      · rw [up_ne (by decide)]; exact g9.2.1
      · rw [up_ne (by decide)]; exact g9.2.2
    rcases is_Rb hr with rfl | rfl
    all_goals (try simp only [up_ne, up_ar, up_at, up_v1, up_v2, not_false_eq_true, Nat.reduceAdd, Nat.reduceLT, Nat.reduceLeDiff, Nat.reduceEqDiff, reduceCtorEq, Nat.zero_ne_one, Nat.one_ne_zero])
    all_goals exact hR'
  all_goals rcases is_Rb hr with rfl | rfl
  all_goals (try simp only [up_ne, up_ar, up_at, up_v1, up_v2, not_false_eq_true, Nat.reduceAdd, Nat.reduceLT, Nat.reduceLeDiff, Nat.reduceEqDiff, reduceCtorEq, Nat.zero_ne_one, Nat.one_ne_zero])
  all_goals first | exact hR | exact hB | exact hP | exact hC | exact e1 | (repeat' first | exact hK | refine rb_K.up ?_ (by first | (left; decide) | (right; decide)))
theorem lw_i {k : Int32} (hN : N ≤ 3074) (hx : 0 ≤ x4.toInt ∧ x4.toInt + 6 ≤ N) (hk : 0 ≤ k.toInt ∧ k.toInt ≤ 5) : vp_in (x4 + k) N := by
  rw [vp_iff]
  simp only [Int32.lt_iff_toInt_lt, Int32.le_iff_toInt_le, Int32.toInt_add, Int32.toInt_sub, Int32.toInt_mul, Int.bmod_def, i3_m1, i3_0, i3_1, i3_2, i3_3, i3_4, i3_5, i3_6, i3_7, i3_8, i3_9, i3_10, i3_15, i3_16, i3_19, i3_20, i3_24, i3_31, i3_33, i3_44, i3_45, i3_48, i3_49, i3_59, i3_63, i3_64, i3_80, i3_100, i3_192, i3_200000, i3_254, i3_255, i3_256, i3_800, i3_16777215, i3_16777216]
  omega
theorem i3_or {k : Int32} (hk : 0 ≤ k.toInt) (h : k.toInt < 0) : False := by omega
/-- byteAt -/
def cl_by (d : rl_A) (n k : Int32) : Int32 := if 0 ≤ k.toInt ∧ k.toInt < n.toInt then d k.toNatClampNeg else -1
theorem cc_byteAt {k : Int32} (hB : rb_B (I 54 1) (I 55) (I 84 10) (I 91)) : mc_WP (mc_en 49 [.ref 10, .int k] (I, J, rf_w r, sh_w N, n)) (fun o t => o = .inl (some (.int (cl_by (I 91) (I 84 10) k))) ∧ t = (I, J, rf_w r, sh_w N, n)) := by
  obtain ⟨h1, h2, h3⟩ := hB
  unfold cl_by
  refine bk_49_0 ⟨fun c => ⟨?_, rfl⟩, fun c => ⟨fun d => ⟨?_, rfl⟩, fun d => ⟨?_, ?_, rfl⟩⟩⟩
  · simp only [Int32.lt_iff_toInt_lt, Int32.le_iff_toInt_le, Int32.toInt_add, Int32.toInt_sub, Int32.toInt_mul, Int.bmod_def, i3_m1, i3_0, i3_1, i3_2, i3_3, i3_4, i3_5, i3_6, i3_7, i3_8, i3_9, i3_10, i3_15, i3_16, i3_19, i3_20, i3_24, i3_31, i3_33, i3_44, i3_45, i3_48, i3_49, i3_59, i3_63, i3_64, i3_80, i3_100, i3_192, i3_200000, i3_254, i3_255, i3_256, i3_800, i3_16777215, i3_16777216] at c
    rw [if_neg (by omega)]
  · rw [h1] at d
    simp only [Int32.lt_iff_toInt_lt, Int32.le_iff_toInt_le, Int32.toInt_add, Int32.toInt_sub, Int32.toInt_mul, Int.bmod_def, i3_m1, i3_0, i3_1, i3_2, i3_3, i3_4, i3_5, i3_6, i3_7, i3_8, i3_9, i3_10, i3_15, i3_16, i3_19, i3_20, i3_24, i3_31, i3_33, i3_44, i3_45, i3_48, i3_49, i3_59, i3_63, i3_64, i3_80, i3_100, i3_192, i3_200000, i3_254, i3_255, i3_256, i3_800, i3_16777215, i3_16777216] at c d
    rw [if_neg (by omega)]
  · rw [h1] at d
    rw [vp_iff]
    simp only [Int32.lt_iff_toInt_lt, Int32.le_iff_toInt_le, Int32.toInt_add, Int32.toInt_sub, Int32.toInt_mul, Int.bmod_def, i3_m1, i3_0, i3_1, i3_2, i3_3, i3_4, i3_5, i3_6, i3_7, i3_8, i3_9, i3_10, i3_15, i3_16, i3_19, i3_20, i3_24, i3_31, i3_33, i3_44, i3_45, i3_48, i3_49, i3_59, i3_63, i3_64, i3_80, i3_100, i3_192, i3_200000, i3_254, i3_255, i3_256, i3_800, i3_16777215, i3_16777216] at c d
    omega
  · rw [h1] at d
    simp only [Int32.lt_iff_toInt_lt, Int32.le_iff_toInt_le, Int32.toInt_add, Int32.toInt_sub, Int32.toInt_mul, Int.bmod_def, i3_m1, i3_0, i3_1, i3_2, i3_3, i3_4, i3_5, i3_6, i3_7, i3_8, i3_9, i3_10, i3_15, i3_16, i3_19, i3_20, i3_24, i3_31, i3_33, i3_44, i3_45, i3_48, i3_49, i3_59, i3_63, i3_64, i3_80, i3_100, i3_192, i3_200000, i3_254, i3_255, i3_256, i3_800, i3_16777215, i3_16777216] at c d
    rw [if_pos (by omega), (h3 k.toNatClampNeg (by rw [i3_tn]; omega)).1]
theorem cm_byteAt {k : Int32} (h2 : 0 ≤ (I 84 10).toInt ∧ (I 84 10).toInt ≤ 800) : mc_WP (mc_en 94 [.ref 84, .int k] (I, J, rf_w r, sh_w N, n)) (fun o t => o = .inl (some (.int (cl_by (I 91) (I 84 10) k))) ∧ t = (mc_up I 84 0 0, J, rf_w r, sh_w N, n)) := by
  unfold cl_by
  refine bk_94_0 ⟨fun c => ⟨?_, rfl⟩, fun c => ⟨fun d => ⟨?_, ?_, rfl⟩, fun d => ⟨?_, rfl⟩⟩⟩
  · simp only [Int32.lt_iff_toInt_lt, Int32.le_iff_toInt_le, Int32.toInt_add, Int32.toInt_sub, Int32.toInt_mul, Int.bmod_def, i3_m1, i3_0, i3_1, i3_2, i3_3, i3_4, i3_5, i3_6, i3_7, i3_8, i3_9, i3_10, i3_15, i3_16, i3_19, i3_20, i3_24, i3_31, i3_33, i3_44, i3_45, i3_48, i3_49, i3_59, i3_63, i3_64, i3_80, i3_100, i3_192, i3_200000, i3_254, i3_255, i3_256, i3_800, i3_16777215, i3_16777216] at c
    rw [if_neg (by omega)]
  · rw [vp_iff]
    simp only [Int32.lt_iff_toInt_lt, Int32.le_iff_toInt_le, Int32.toInt_add, Int32.toInt_sub, Int32.toInt_mul, Int.bmod_def, i3_m1, i3_0, i3_1, i3_2, i3_3, i3_4, i3_5, i3_6, i3_7, i3_8, i3_9, i3_10, i3_15, i3_16, i3_19, i3_20, i3_24, i3_31, i3_33, i3_44, i3_45, i3_48, i3_49, i3_59, i3_63, i3_64, i3_80, i3_100, i3_192, i3_200000, i3_254, i3_255, i3_256, i3_800, i3_16777215, i3_16777216] at c d
    omega
  · simp only [Int32.lt_iff_toInt_lt, Int32.le_iff_toInt_le, Int32.toInt_add, Int32.toInt_sub, Int32.toInt_mul, Int.bmod_def, i3_m1, i3_0, i3_1, i3_2, i3_3, i3_4, i3_5, i3_6, i3_7, i3_8, i3_9, i3_10, i3_15, i3_16, i3_19, i3_20, i3_24, i3_31, i3_33, i3_44, i3_45, i3_48, i3_49, i3_59, i3_63, i3_64, i3_80, i3_100, i3_192, i3_200000, i3_254, i3_255, i3_256, i3_800, i3_16777215, i3_16777216] at c d
    rw [if_pos (by omega)]
  · simp only [Int32.lt_iff_toInt_lt, Int32.le_iff_toInt_le, Int32.toInt_add, Int32.toInt_sub, Int32.toInt_mul, Int.bmod_def, i3_m1, i3_0, i3_1, i3_2, i3_3, i3_4, i3_5, i3_6, i3_7, i3_8, i3_9, i3_10, i3_15, i3_16, i3_19, i3_20, i3_24, i3_31, i3_33, i3_44, i3_45, i3_48, i3_49, i3_59, i3_63, i3_64, i3_80, i3_100, i3_192, i3_200000, i3_254, i3_255, i3_256, i3_800, i3_16777215, i3_16777216] at c d
    rw [if_neg (by omega)]
theorem lc_byteAt (hI : rl_I r I) (hN : N ≤ 3074) (hx : 0 ≤ x4.toInt ∧ x4.toInt + 6 ≤ N) (hu : u.1 + 3 ≤ 601024 ∧ u.2 + 18 ≤ 7293000) (hn : lw_nx N x4 u Q) : mc_WP (42, 922, [.ref 1, .ref 10, .ref 84, .ref 105, .int x4, x5, x6], [], (I, J, rf_w r, sh_w N, n), u) Q := by
  obtain ⟨hr, hR, hB, hP, hC, hK⟩ := hI
  refine bk_42_922 ⟨lw_i hN hx (by decide), by omega, by omega, mc_ex (cc_byteAt hB) ?_⟩
  refine bk_42_932 ⟨lw_i hN hx (by decide), by omega, by omega, mc_ex (cm_byteAt hB.2.1) ?_⟩
  refine bk_42_942 ⟨fun _ => hn r _ _ _ _ _ _ ⟨hr, ?_, ?_, ?_, ?_, ?_⟩ (by omega) (by omega), fun q => absurd rfl q⟩
  all_goals rcases is_Rb hr with rfl | rfl
  all_goals (try simp only [up_ne, up_ar, up_at, up_v1, up_v2, not_false_eq_true, Nat.reduceAdd, Nat.reduceLT, Nat.reduceLeDiff, Nat.reduceEqDiff, reduceCtorEq, Nat.zero_ne_one, Nat.one_ne_zero])
  all_goals first | exact hR | exact hB | exact hP | exact hC | (repeat' first | exact hK | refine rb_K.up ?_ (by first | (left; decide) | (right; decide)))
end
