section
variable {I : rl_M} {J : Nat → Nat → Int64} {r N n : Nat} {Q : mc_Q} {x4 : Int32} {x5 x6 : Value} {u : mc_U} {x1 d e z w : Int32} {f k : Nat}
theorem cc_within {v lo hi : Int32} (h1 : lo.toInt ≤ v.toInt ∧ v.toInt ≤ hi.toInt → Q (.inl (some (.int 1))) (I, J, rf_w r, sh_w N, n)) (h2 : ¬ (lo.toInt ≤ v.toInt ∧ v.toInt ≤ hi.toInt) → Q (.inl (some (.int 0))) (I, J, rf_w r, sh_w N, n)) :
    mc_WP (mc_en 51 [.int v, .int lo, .int hi] (I, J, rf_w r, sh_w N, n)) Q := by
  refine bk_51_0 ⟨fun a => h2 ?_, fun a => ⟨fun b => h2 ?_, fun b => h1 ?_⟩⟩
  · simp only [Int32.lt_iff_toInt_lt, Int32.le_iff_toInt_le, Int32.toInt_add, Int32.toInt_sub, Int32.toInt_mul, Int.bmod_def, i3_m1, i3_0, i3_1, i3_2, i3_3, i3_4, i3_5, i3_6, i3_7, i3_8, i3_9, i3_10, i3_15, i3_16, i3_19, i3_20, i3_24, i3_31, i3_33, i3_44, i3_45, i3_48, i3_49, i3_59, i3_63, i3_64, i3_80, i3_100, i3_192, i3_200000, i3_254, i3_255, i3_256, i3_800, i3_16777215, i3_16777216] at a; omega
  · simp only [Int32.lt_iff_toInt_lt, Int32.le_iff_toInt_le, Int32.toInt_add, Int32.toInt_sub, Int32.toInt_mul, Int.bmod_def, i3_m1, i3_0, i3_1, i3_2, i3_3, i3_4, i3_5, i3_6, i3_7, i3_8, i3_9, i3_10, i3_15, i3_16, i3_19, i3_20, i3_24, i3_31, i3_33, i3_44, i3_45, i3_48, i3_49, i3_59, i3_63, i3_64, i3_80, i3_100, i3_192, i3_200000, i3_254, i3_255, i3_256, i3_800, i3_16777215, i3_16777216] at a b; omega
  · simp only [Int32.lt_iff_toInt_lt, Int32.le_iff_toInt_le, Int32.toInt_add, Int32.toInt_sub, Int32.toInt_mul, Int.bmod_def, i3_m1, i3_0, i3_1, i3_2, i3_3, i3_4, i3_5, i3_6, i3_7, i3_8, i3_9, i3_10, i3_15, i3_16, i3_19, i3_20, i3_24, i3_31, i3_33, i3_44, i3_45, i3_48, i3_49, i3_59, i3_63, i3_64, i3_80, i3_100, i3_192, i3_200000, i3_254, i3_255, i3_256, i3_800, i3_16777215, i3_16777216] at a b; omega
theorem cm_outside {v lo hi : Int32} (h1 : lo.toInt ≤ v.toInt ∧ v.toInt ≤ hi.toInt → Q (.inl (some (.int 0))) (I, J, rf_w r, sh_w N, n)) (h2 : ¬ (lo.toInt ≤ v.toInt ∧ v.toInt ≤ hi.toInt) → Q (.inl (some (.int 1))) (I, J, rf_w r, sh_w N, n)) :
    mc_WP (mc_en 57 [.int v, .int lo, .int hi] (I, J, rf_w r, sh_w N, n)) Q := by
  refine bk_57_0 ⟨fun a => h2 ?_, fun a => ⟨fun b => h1 ?_, fun b => h2 ?_⟩⟩
  · simp only [Int32.lt_iff_toInt_lt, Int32.le_iff_toInt_le, Int32.toInt_add, Int32.toInt_sub, Int32.toInt_mul, Int.bmod_def, i3_m1, i3_0, i3_1, i3_2, i3_3, i3_4, i3_5, i3_6, i3_7, i3_8, i3_9, i3_10, i3_15, i3_16, i3_19, i3_20, i3_24, i3_31, i3_33, i3_44, i3_45, i3_48, i3_49, i3_59, i3_63, i3_64, i3_80, i3_100, i3_192, i3_200000, i3_254, i3_255, i3_256, i3_800, i3_16777215, i3_16777216] at a; omega
  · simp only [Int32.lt_iff_toInt_lt, Int32.le_iff_toInt_le, Int32.toInt_add, Int32.toInt_sub, Int32.toInt_mul, Int.bmod_def, i3_m1, i3_0, i3_1, i3_2, i3_3, i3_4, i3_5, i3_6, i3_7, i3_8, i3_9, i3_10, i3_15, i3_16, i3_19, i3_20, i3_24, i3_31, i3_33, i3_44, i3_45, i3_48, i3_49, i3_59, i3_63, i3_64, i3_80, i3_100, i3_192, i3_200000, i3_254, i3_255, i3_256, i3_800, i3_16777215, i3_16777216] at a b; omega
  · simp only [Int32.lt_iff_toInt_lt, Int32.le_iff_toInt_le, Int32.toInt_add, Int32.toInt_sub, Int32.toInt_mul, Int.bmod_def, i3_m1, i3_0, i3_1, i3_2, i3_3, i3_4, i3_5, i3_6, i3_7, i3_8, i3_9, i3_10, i3_15, i3_16, i3_19, i3_20, i3_24, i3_31, i3_33, i3_44, i3_45, i3_48, i3_49, i3_59, i3_63, i3_64, i3_80, i3_100, i3_192, i3_200000, i3_254, i3_255, i3_256, i3_800, i3_16777215, i3_16777216] at a b; omega
theorem cc_rframe (hr : is_R r) (hR : rb_R (rl_v r I) (I 84 1) (I 85) (I 86) (I 87)) (h1 : fr_in (I 84 1) x1 → Q (.inl none) (I, J, rf_w r, sh_w N, n)) (h2 : ¬ fr_in (I 84 1) x1 → Q (.inr 1) (I, J, rf_w r, sh_w N, 0)) :
    mc_WP (mc_en 14 [.ref 10, .int x1] (I, J, rf_w r, sh_w N, n)) Q := by
  have hc : I r 4 = I 84 1 := by have := hR.2.1; rw [rl_v0 _ _ _ _ (by decide)] at this; exact this
  have hb := hR.1
  unfold fr_in at h1 h2
  refine bk_14_0 hr ⟨fun a => h2 ?_, fun a => ⟨fun b => h2 ?_, fun b => h1 ?_⟩⟩
  all_goals (try rw [hc] at b)
  · simp only [Int32.lt_iff_toInt_lt, Int32.le_iff_toInt_le, Int32.toInt_add, Int32.toInt_sub, Int32.toInt_mul, Int.bmod_def, i3_m1, i3_0, i3_1, i3_2, i3_3, i3_4, i3_5, i3_6, i3_7, i3_8, i3_9, i3_10, i3_15, i3_16, i3_19, i3_20, i3_24, i3_31, i3_33, i3_44, i3_45, i3_48, i3_49, i3_59, i3_63, i3_64, i3_80, i3_100, i3_192, i3_200000, i3_254, i3_255, i3_256, i3_800, i3_16777215, i3_16777216] at a; omega
  · simp only [Int32.lt_iff_toInt_lt, Int32.le_iff_toInt_le, Int32.toInt_add, Int32.toInt_sub, Int32.toInt_mul, Int.bmod_def, i3_m1, i3_0, i3_1, i3_2, i3_3, i3_4, i3_5, i3_6, i3_7, i3_8, i3_9, i3_10, i3_15, i3_16, i3_19, i3_20, i3_24, i3_31, i3_33, i3_44, i3_45, i3_48, i3_49, i3_59, i3_63, i3_64, i3_80, i3_100, i3_192, i3_200000, i3_254, i3_255, i3_256, i3_800, i3_16777215, i3_16777216] at a b; omega
  · simp only [Int32.lt_iff_toInt_lt, Int32.le_iff_toInt_le, Int32.toInt_add, Int32.toInt_sub, Int32.toInt_mul, Int.bmod_def, i3_m1, i3_0, i3_1, i3_2, i3_3, i3_4, i3_5, i3_6, i3_7, i3_8, i3_9, i3_10, i3_15, i3_16, i3_19, i3_20, i3_24, i3_31, i3_33, i3_44, i3_45, i3_48, i3_49, i3_59, i3_63, i3_64, i3_80, i3_100, i3_192, i3_200000, i3_254, i3_255, i3_256, i3_800, i3_16777215, i3_16777216] at a b; omega
theorem cm_isFrame {c : rl_M} (hR : rb_R c (I 84 1) (I 85) (I 86) (I 87)) (h1 : fr_in (I 84 1) x1 → Q (.inl (some (.int 1))) (I, J, rf_w r, sh_w N, n)) (h2 : ¬ fr_in (I 84 1) x1 → Q (.inl (some (.int 0))) (I, J, rf_w r, sh_w N, n)) :
    mc_WP (mc_en 58 [.ref 84, .int x1] (I, J, rf_w r, sh_w N, n)) Q := by
  unfold fr_in at h1 h2
  refine bk_58_0 ⟨fun a => h2 ?_, fun a => ⟨fun b => h2 ?_, fun b => h1 ?_⟩⟩
  · simp only [Int32.lt_iff_toInt_lt, Int32.le_iff_toInt_le, Int32.toInt_add, Int32.toInt_sub, Int32.toInt_mul, Int.bmod_def, i3_m1, i3_0, i3_1, i3_2, i3_3, i3_4, i3_5, i3_6, i3_7, i3_8, i3_9, i3_10, i3_15, i3_16, i3_19, i3_20, i3_24, i3_31, i3_33, i3_44, i3_45, i3_48, i3_49, i3_59, i3_63, i3_64, i3_80, i3_100, i3_192, i3_200000, i3_254, i3_255, i3_256, i3_800, i3_16777215, i3_16777216] at a; omega
  · simp only [Int32.lt_iff_toInt_lt, Int32.le_iff_toInt_le, Int32.toInt_add, Int32.toInt_sub, Int32.toInt_mul, Int.bmod_def, i3_m1, i3_0, i3_1, i3_2, i3_3, i3_4, i3_5, i3_6, i3_7, i3_8, i3_9, i3_10, i3_15, i3_16, i3_19, i3_20, i3_24, i3_31, i3_33, i3_44, i3_45, i3_48, i3_49, i3_59, i3_63, i3_64, i3_80, i3_100, i3_192, i3_200000, i3_254, i3_255, i3_256, i3_800, i3_16777215, i3_16777216] at a b; omega
  · simp only [Int32.lt_iff_toInt_lt, Int32.le_iff_toInt_le, Int32.toInt_add, Int32.toInt_sub, Int32.toInt_mul, Int.bmod_def, i3_m1, i3_0, i3_1, i3_2, i3_3, i3_4, i3_5, i3_6, i3_7, i3_8, i3_9, i3_10, i3_15, i3_16, i3_19, i3_20, i3_24, i3_31, i3_33, i3_44, i3_45, i3_48, i3_49, i3_59, i3_63, i3_64, i3_80, i3_100, i3_192, i3_200000, i3_254, i3_255, i3_256, i3_800, i3_16777215, i3_16777216] at a b; omega
theorem is_Ff (hr : is_R r) (hf : f < 4) : is_F (r + 4 + 4 * f) := by
  have := (wd_A (r := r) (N := 0) (i := Int32.ofNat f) hr (by rw [vp_iff, Int32.toInt_ofNat_of_lt (by omega)]; omega)).2.2
  rw [Int32.toNatClampNeg_ofNat_of_lt (by omega)] at this
  exact this
def se_in (hs : rl_A) (x1 d e z : Int32) : Prop := (0 ≤ d.toInt ∧ d.toInt ≤ 3) ∧ (0 ≤ e.toInt ∧ e.toInt ≤ 255) ∧ -1 ≤ z.toInt ∧ z.toInt < (rb_n hs x1.toNatClampNeg).toInt
theorem cw_set (hr : is_R r) (hR : rb_R (rl_v r I) (I 84 1) (I 85) (I 86) (I 87)) (hw : w = 0 ∨ w = 1) (h1 : fr_in (I 84 1) x1 → se_in (I 85) x1 d e z → Q (.inl (some (.int 0))) (mc_up (mc_up (mc_up (mc_up I (r + 4 + 4 * x1.toNatClampNeg) 6 d) (r + 4 + 4 * x1.toNatClampNeg) 7 e) (r + 4 + 4 * x1.toNatClampNeg) 8 z) (r + 4 + 4 * x1.toNatClampNeg) 9 w, J, rf_w r, sh_w N, n)) (h2 : ¬ fr_in (I 84 1) x1 → Q (.inl (some (.int 1))) (I, J, rf_w r, sh_w N, 0)) (h3 : fr_in (I 84 1) x1 → ¬ se_in (I 85) x1 d e z → Q (.inl (some (.int 2))) (I, J, rf_w r, sh_w N, 0)) :
    mc_WP (mc_en 33 [.ref 10, .int x1, .int d, .int e, .int z, .int w] (I, J, rf_w r, sh_w N, n)) Q := by
  refine bk_33_0 (mc_inl ?_)
  refine bk_5_0 (mc_inl ?_)
  refine cc_rframe hr hR (fun c => ?_) (fun c => h2 c)
  obtain ⟨g1, g2, g3, g4⟩ := fr_f hR c
  obtain ⟨q1, q2, -, -, q5, q6⟩ := fr_n hR g1 g3
  have hF := is_Ff hr g1
  replace h1 := h1 c
  replace h3 := h3 c
  unfold se_in at h1 h3
  refine bk_5_5 hr ⟨g4, mc_inl ?_⟩
  refine cc_within (fun a => ?_) (fun a => bk_5_22 hF ⟨fun _ => h3 (fun q => a q.1), fun q => absurd rfl q⟩)
  refine bk_5_22 hF ⟨fun q => absurd q (by decide), fun _ => mc_inl ?_⟩
  refine cc_within (fun a' => ?_) (fun a' => bk_5_33 hr hF ⟨fun _ => h3 (fun q => a' q.2.1), fun q => absurd rfl q⟩)
  refine bk_5_33 hr hF ⟨fun q => absurd q (by decide), fun _ => ⟨fun b => ⟨hw, bk_33_11 (h1 ?_)⟩, fun b => mc_inl ?_⟩⟩
  · rw [i3_ne] at b
    exact ⟨a, a', by omega, by omega⟩
  · have last : ∀ p, is_P p → I p 1 = rb_n (I 85) x1.toNatClampNeg → mc_WP (5, 51, [.ref 10, .int x1, .int d, .int e, .int z, .int w, .ref (r + 4 + 4 * x1.toNatClampNeg)], [.ref p], (I, J, rf_w r, sh_w N, n), (1, 6)) (mc_kr (fun v t => mc_WP (33, 11, [.ref 10, .int x1, .int d, .int e, .int z, .int w, .null], v.toList ++ [], t, (2, 12)) Q) (fun k t => mc_out 33 (pg_hd 33 8 k) Q k t)) := by
      intro p hp hc
      rw [i3_ne] at b
      refine bk_5_51 hF hp (mc_inl ?_)
      refine bk_154_0 hp ?_
      rw [hc]
      refine ⟨fun s => bk_5_56 hF ⟨fun q => absurd rfl q, fun _ => h3 ?_⟩, fun s => ⟨fun t => bk_5_56 hF ⟨fun q => absurd rfl q, fun _ => h3 ?_⟩, fun t => bk_5_56 hF ⟨fun _ => ⟨hw, bk_33_11 (h1 ?_)⟩, fun q => absurd (show ¬ (1 : Int32) = 0 by decide) q⟩⟩⟩
      · simp only [Int32.lt_iff_toInt_lt, Int32.le_iff_toInt_le, Int32.toInt_add, Int32.toInt_sub, Int32.toInt_mul, Int.bmod_def, i3_m1, i3_0, i3_1, i3_2, i3_3, i3_4, i3_5, i3_6, i3_7, i3_8, i3_9, i3_10, i3_15, i3_16, i3_19, i3_20, i3_24, i3_31, i3_33, i3_44, i3_45, i3_48, i3_49, i3_59, i3_63, i3_64, i3_80, i3_100, i3_192, i3_200000, i3_254, i3_255, i3_256, i3_800, i3_16777215, i3_16777216] at s; omega
      · simp only [Int32.lt_iff_toInt_lt, Int32.le_iff_toInt_le, Int32.toInt_add, Int32.toInt_sub, Int32.toInt_mul, Int.bmod_def, i3_m1, i3_0, i3_1, i3_2, i3_3, i3_4, i3_5, i3_6, i3_7, i3_8, i3_9, i3_10, i3_15, i3_16, i3_19, i3_20, i3_24, i3_31, i3_33, i3_44, i3_45, i3_48, i3_49, i3_59, i3_63, i3_64, i3_80, i3_100, i3_192, i3_200000, i3_254, i3_255, i3_256, i3_800, i3_16777215, i3_16777216] at s t; omega
      · refine ⟨a, a', ?_⟩; simp only [Int32.lt_iff_toInt_lt, Int32.le_iff_toInt_le, Int32.toInt_add, Int32.toInt_sub, Int32.toInt_mul, Int.bmod_def, i3_m1, i3_0, i3_1, i3_2, i3_3, i3_4, i3_5, i3_6, i3_7, i3_8, i3_9, i3_10, i3_15, i3_16, i3_19, i3_20, i3_24, i3_31, i3_33, i3_44, i3_45, i3_48, i3_49, i3_59, i3_63, i3_64, i3_80, i3_100, i3_192, i3_200000, i3_254, i3_255, i3_256, i3_800, i3_16777215, i3_16777216] at s t; omega
    refine bk_191_0 hr hF ⟨fun s => last _ (wd_R (r := r) (N := N) hr).2.2.2.2.1 (q1 s).symm, fun s => last _ (wd_F (r := r) (N := N) hF).2.2.2.2.2 (q2 s).symm⟩
theorem cm_set {c : rl_M} (hR : rb_R c (I 84 1) (I 85) (I 86) (I 87)) (hw : w = 0 ∨ w = 1) (h1 : fr_in (I 84 1) x1 → se_in (I 85) x1 d e z → Q (.inl none) (mc_up (mc_up (mc_up (mc_up (mc_up I 84 0 0) 85 (9 * (x1.toNatClampNeg + 1) + 5) d) 85 (9 * (x1.toNatClampNeg + 1) + 6) e) 85 (9 * (x1.toNatClampNeg + 1) + 7) z) 85 (9 * (x1.toNatClampNeg + 1) + 8) w, J, rf_w r, sh_w N, n)) (h2 : ¬ fr_in (I 84 1) x1 → Q (.inl none) (mc_up I 84 0 1, J, rf_w r, sh_w N, n)) (h3 : fr_in (I 84 1) x1 → ¬ se_in (I 85) x1 d e z → Q (.inl none) (mc_up I 84 0 2, J, rf_w r, sh_w N, n)) :
    mc_WP (mc_en 69 [.ref 84, .int x1, .int d, .int e, .int z, .int w] (I, J, rf_w r, sh_w N, n)) Q := by
  refine bk_69_0 (mc_inl ?_)
  refine cm_isFrame hR (fun c => ?_) (fun c => bk_69_5 ⟨fun q => absurd rfl q, fun _ => h2 c⟩)
  obtain ⟨g1, g2, g3, g4⟩ := fr_f hR c
  obtain ⟨q3, q4, q5, q6⟩ := fr_nm hR g3
  have b3 : 0 ≤ x1.toInt ∧ x1.toInt < 4 := by omega
  have hef : I 85 (9 * ef_g (I 85) (ow_g x1) + 4) = (if I 85 (9 * (x1.toNatClampNeg + 1) + 4) = 0 then I 85 4 else I 85 (9 * (x1.toNatClampNeg + 1) + 4)) := by
    unfold ef_g
    rw [ow_f c.1]
    split <;> rfl
  have hn : (1 : Int32) <<< (I 85 (9 * ef_g (I 85) (ow_g x1) + 4) &&& 31) = rb_n (I 85) x1.toNatClampNeg := by
    rw [hef]
    by_cases z : I 85 (9 * (x1.toNatClampNeg + 1) + 4) = 0
    · rw [if_pos z]; exact (q3 (by rw [z]; decide)).symm
    · rw [if_neg z]; exact (q4 (fun q => z (by
        have q0 := g3.2.2.2.2.2.2.2.2.2.2.1.1.1
        rw [← Int32.toInt_inj]
        simp only [Int32.lt_iff_toInt_lt, Int32.le_iff_toInt_le, Int32.toInt_add, Int32.toInt_sub, Int32.toInt_mul, Int.bmod_def, i3_m1, i3_0, i3_1, i3_2, i3_3, i3_4, i3_5, i3_6, i3_7, i3_8, i3_9, i3_10, i3_15, i3_16, i3_19, i3_20, i3_24, i3_31, i3_33, i3_44, i3_45, i3_48, i3_49, i3_59, i3_63, i3_64, i3_80, i3_100, i3_192, i3_200000, i3_254, i3_255, i3_256, i3_800, i3_16777215, i3_16777216] at q ⊢
        omega))).symm
  replace h1 := h1 c
  replace h3 := h3 c
  unfold se_in at h1 h3
  refine bk_69_5 ⟨fun _ => mc_inl ?_, fun q => absurd (show ¬ (1 : Int32) = 0 by decide) q⟩
  refine cm_outside (fun a => ?_) (fun a => bk_69_23 ⟨fun _ => h3 (fun q => a q.1), fun q => absurd (show ¬ (1 : Int32) = 0 by decide) q⟩)
  refine bk_69_23 ⟨fun q => absurd rfl q, fun _ => mc_inl ?_⟩
  refine cm_outside (fun a' => ?_) (fun a' => bk_69_34 ⟨fun _ => h3 (fun q => a' q.2.1), fun q => absurd (show ¬ (1 : Int32) = 0 by decide) q⟩)
  refine bk_69_34 ⟨fun q => absurd rfl q, fun _ => mc_inl ?_⟩
  refine cm_bits hR (Or.inr c) ?_
  refine bk_69_46 (mc_inl ?_)
  rw [hn]
  have e1 : (rb_n (I 85) x1.toNatClampNeg - 1).toInt = (rb_n (I 85) x1.toNatClampNeg).toInt - 1 := by simp only [Int32.lt_iff_toInt_lt, Int32.le_iff_toInt_le, Int32.toInt_add, Int32.toInt_sub, Int32.toInt_mul, Int.bmod_def, i3_m1, i3_0, i3_1, i3_2, i3_3, i3_4, i3_5, i3_6, i3_7, i3_8, i3_9, i3_10, i3_15, i3_16, i3_19, i3_20, i3_24, i3_31, i3_33, i3_44, i3_45, i3_48, i3_49, i3_59, i3_63, i3_64, i3_80, i3_100, i3_192, i3_200000, i3_254, i3_255, i3_256, i3_800, i3_16777215, i3_16777216]; omega
  refine cm_outside (fun b => ?_) (fun b => bk_69_52 ⟨fun q => absurd q (by decide), fun _ => h3 (fun q => b ?_)⟩)
  · have i5 := ix_9 (x1 := x1) (k := 5) b3 (by decide)
    have i6 := ix_9 (x1 := x1) (k := 6) b3 (by decide)
    have i7 := ix_9 (x1 := x1) (k := 7) b3 (by decide)
    have i8 := ix_9 (x1 := x1) (k := 8) b3 (by decide)
    rw [show (5 : Int32).toNatClampNeg = 5 from rfl] at i5
    rw [show (6 : Int32).toNatClampNeg = 6 from rfl] at i6
    rw [show (7 : Int32).toNatClampNeg = 7 from rfl] at i7
    rw [show (8 : Int32).toNatClampNeg = 8 from rfl] at i8
    rw [e1] at b
    have hb : -1 ≤ z.toInt ∧ z.toInt < (rb_n (I 85) x1.toNatClampNeg).toInt := ⟨b.1, by omega⟩
    have key := h1 ⟨a, a', hb⟩
    refine bk_69_52 ⟨fun _ => ?_, fun q => absurd rfl q⟩
    rw [i5.1, i6.1, i7.1, i8.1]
    refine ⟨i5.2, i6.2, i7.2, fun s => ⟨i8.2, ?_⟩, fun s => ⟨i8.2, ?_⟩⟩
    · rw [s] at key; exact key
    · rcases hw with t | t
      · exact absurd t s
      · rw [t] at key; exact key
  · rw [e1]
    exact ⟨q.2.2.1, by omega⟩
end
