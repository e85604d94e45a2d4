section
variable {I : rl_M} {J : Nat → Nat → Int64} {r N n : Nat} {Q : mc_Q} {x4 : Int32} {x5 x6 : Value} {u : mc_U} {x1 x2 x y v b : Int32} {f k g : Nat}
theorem cnt_c (h : 0 ≤ b.toInt ∧ b.toInt ≤ 4) : b = 0 ∨ b = 1 ∨ b = 2 ∨ b = 3 ∨ b = 4 := by
  simp only [← Int32.toInt_inj, Int32.lt_iff_toInt_lt, Int32.le_iff_toInt_le, Int32.toInt_add, Int32.toInt_sub, Int32.toInt_mul, Int.bmod_def, i3_m1, i3_0, i3_1, i3_2, i3_3, i3_4, i3_5, i3_6, i3_7, i3_8, i3_9, i3_10, i3_15, i3_16, i3_19, i3_20, i3_24, i3_31, i3_33, i3_44, i3_45, i3_48, i3_49, i3_59, i3_63, i3_64, i3_80, i3_100, i3_192, i3_200000, i3_254, i3_255, i3_256, i3_800, i3_16777215, i3_16777216]
  omega
theorem cnt_b (h : 0 ≤ b.toInt ∧ b.toInt ≤ 4) : 0 ≤ (rl_cnt b).toInt ∧ (rl_cnt b).toInt ≤ 16 ∧ (b = 0 → rl_cnt b = 0) ∧ (¬ b = 0 → rl_cnt b = 1 <<< (b &&& 31) ∧ 2 ≤ (rl_cnt b).toInt) := by
  rcases cnt_c h with rfl | rfl | rfl | rfl | rfl <;> decide
/-- the palette in which the numbers of owner g lie -/
def ef_g (hs : rl_A) (g : Nat) : Nat := if hs (9 * g + 4) = 0 then 0 else g
def co_in (n : Int32) (hs : rl_A) (x1 x2 : Int32) : Prop := ow_in n x1 ∧ 0 ≤ x2.toInt ∧ x2.toInt < (rl_cnt (hs (9 * ef_g hs (ow_g x1) + 4))).toInt
/-- the palette of a frame or of the reel, in the class's places -/
theorem ow_pal {c : rl_M} {m : Int32} {hs cs ps : rl_A} (hR : rb_R c m hs cs ps) (h : ow_in m x1) : (x1.toInt = -1 ∧ ow_g x1 = 0) ∨ (fr_in m x1 ∧ ow_g x1 = x1.toNatClampNeg + 1 ∧ rb_pal c hs cs (4 + 4 * x1.toNatClampNeg + 2) (x1.toNatClampNeg + 1)) := by
  rcases h with h | h
  · left
    refine ⟨h, ?_⟩
    unfold ow_g
    rw [h]
    rfl
  · right
    exact ⟨h, ow_f h.1, (fr_f hR h).2.2.1.2.2.2.2.2.2.2.2.2.2.1⟩
theorem cw_colourAt (hr : is_R r) (hR : rb_R (rl_v r I) (I 84 1) (I 85) (I 86) (I 87)) (h1 : co_in (I 84 1) (I 85) x1 x2 → Q (.inl (some (.int 0))) (I, mc_up J 105 0 (I 86 (16 * ef_g (I 85) (ow_g x1) + x2.toNatClampNeg)).toInt64, rf_w r, sh_w N, n)) (h2 : ¬ co_in (I 84 1) (I 85) x1 x2 → Q (.inl (some (.int 1))) (I, J, rf_w r, sh_w N, 0)) :
    mc_WP (mc_en 35 [.ref 10, .int x1, .int x2, .ref 105] (I, J, rf_w r, sh_w N, n)) Q := by
  unfold co_in at h1 h2
  have h9 := hR.2.2.2.2.2.2.2.2.1
  have s1 : I (r + 1) 1 = rl_cnt (I 85 4) := by have := h9.2.1; rw [rl_v0 _ _ _ _ (by decide)] at this; exact this
  have s2 : ∀ k, k < 16 → I (r + 1 + 1) k = I 86 k := fun k hk => by have := (h9.2.2 k hk).1; rw [rl_v0 _ _ _ _ (by decide)] at this; rw [Nat.mul_zero, Nat.zero_add] at this; exact this
  have s3 := cnt_b h9.1
  rw [show 9 * 0 + 4 = 4 from rfl] at s3
  refine bk_35_0 (a3z := 1) rfl (mc_inl ?_)
  refine bk_7_0 (mc_inl ?_)
  refine cc_rown hr hR (fun c => ?_) (fun c => h2 (fun q => c q.1))
  have fin : 0 ≤ x2.toInt ∧ x2.toInt < (rl_cnt (I 85 (9 * ef_g (I 85) (ow_g x1) + 4))).toInt → ∀ w, I 86 (16 * ef_g (I 85) (ow_g x1) + x2.toNatClampNeg) = w → mc_WP (35, 8, [.ref 10, .int x1, .int x2, .ref 105, .null], [.int w, .int 0, .ref 105], (I, J, rf_w r, sh_w N, n), (2, 12)) Q := fun q w hw =>
    bk_35_8 (a3z := 1) (b0z := 1) rfl rfl (by decide) ⟨by unfold vp_in; decide, by rw [← hw]; exact h1 ⟨c, q⟩⟩
  have shared : ef_g (I 85) (ow_g x1) = 0 → (x2 < 0 → mc_kr (fun v t => mc_WP (35, 8, [.ref 10, .int x1, .int x2, .ref 105, .null], v.toList ++ [.int 0, .ref 105], t, (2, 12)) Q) (fun k t => mc_out 35 (pg_hd 35 5 k) Q k t) (.inr 1) (I, J, rf_w r, sh_w N, 0)) ∧ (¬ x2 < 0 → (I (r + 1) 1 ≤ x2 → mc_kr (fun v t => mc_WP (35, 8, [.ref 10, .int x1, .int x2, .ref 105, .null], v.toList ++ [.int 0, .ref 105], t, (2, 12)) Q) (fun k t => mc_out 35 (pg_hd 35 5 k) Q k t) (.inr 1) (I, J, rf_w r, sh_w N, 0)) ∧
      (¬ I (r + 1) 1 ≤ x2 → vp_in x2 16 ∧ mc_kr (fun v t => mc_WP (35, 8, [.ref 10, .int x1, .int x2, .ref 105, .null], v.toList ++ [.int 0, .ref 105], t, (2, 12)) Q) (fun k t => mc_out 35 (pg_hd 35 5 k) Q k t) (.inl (some (.int (I (r + 1 + 1) x2.toNatClampNeg)))) (I, J, rf_w r, sh_w N, n))) := by
    intro he
    rw [he] at h2 fin
    rw [show 9 * 0 + 4 = 4 from rfl] at h2 fin
    rw [s1]
    refine ⟨fun a => h2 ?_, fun a => ⟨fun b => h2 ?_, fun b => ⟨?_, ?_⟩⟩⟩
    · simp only [Int32.lt_iff_toInt_lt, Int32.le_iff_toInt_le, Int32.toInt_add, Int32.toInt_sub, Int32.toInt_mul, Int.bmod_def, i3_m1, i3_0, i3_1, i3_2, i3_3, i3_4, i3_5, i3_6, i3_7, i3_8, i3_9, i3_10, i3_15, i3_16, i3_19, i3_20, i3_24, i3_31, i3_33, i3_44, i3_45, i3_48, i3_49, i3_59, i3_63, i3_64, i3_80, i3_100, i3_192, i3_200000, i3_254, i3_255, i3_256, i3_800, i3_16777215, i3_16777216] at a; omega
    · simp only [Int32.lt_iff_toInt_lt, Int32.le_iff_toInt_le, Int32.toInt_add, Int32.toInt_sub, Int32.toInt_mul, Int.bmod_def, i3_m1, i3_0, i3_1, i3_2, i3_3, i3_4, i3_5, i3_6, i3_7, i3_8, i3_9, i3_10, i3_15, i3_16, i3_19, i3_20, i3_24, i3_31, i3_33, i3_44, i3_45, i3_48, i3_49, i3_59, i3_63, i3_64, i3_80, i3_100, i3_192, i3_200000, i3_254, i3_255, i3_256, i3_800, i3_16777215, i3_16777216] at a b; omega
    · rw [vp_iff]; simp only [Int32.lt_iff_toInt_lt, Int32.le_iff_toInt_le, Int32.toInt_add, Int32.toInt_sub, Int32.toInt_mul, Int.bmod_def, i3_m1, i3_0, i3_1, i3_2, i3_3, i3_4, i3_5, i3_6, i3_7, i3_8, i3_9, i3_10, i3_15, i3_16, i3_19, i3_20, i3_24, i3_31, i3_33, i3_44, i3_45, i3_48, i3_49, i3_59, i3_63, i3_64, i3_80, i3_100, i3_192, i3_200000, i3_254, i3_255, i3_256, i3_800, i3_16777215, i3_16777216] at a b; omega
    · have t2 := i3_tn x2
      rw [s2 _ (by simp only [Int32.lt_iff_toInt_lt, Int32.le_iff_toInt_le, Int32.toInt_add, Int32.toInt_sub, Int32.toInt_mul, Int.bmod_def, i3_m1, i3_0, i3_1, i3_2, i3_3, i3_4, i3_5, i3_6, i3_7, i3_8, i3_9, i3_10, i3_15, i3_16, i3_19, i3_20, i3_24, i3_31, i3_33, i3_44, i3_45, i3_48, i3_49, i3_59, i3_63, i3_64, i3_80, i3_100, i3_192, i3_200000, i3_254, i3_255, i3_256, i3_800, i3_16777215, i3_16777216] at a b; omega)]
      refine fin (by simp only [Int32.lt_iff_toInt_lt, Int32.le_iff_toInt_le, Int32.toInt_add, Int32.toInt_sub, Int32.toInt_mul, Int.bmod_def, i3_m1, i3_0, i3_1, i3_2, i3_3, i3_4, i3_5, i3_6, i3_7, i3_8, i3_9, i3_10, i3_15, i3_16, i3_19, i3_20, i3_24, i3_31, i3_33, i3_44, i3_45, i3_48, i3_49, i3_59, i3_63, i3_64, i3_80, i3_100, i3_192, i3_200000, i3_254, i3_255, i3_256, i3_800, i3_16777215, i3_16777216] at a b; omega) _ (by rw [Nat.mul_zero, Nat.zero_add])
  refine bk_7_5 hr ⟨fun d => ?_, fun d => shared ?_⟩
  · have hf : fr_in (I 84 1) x1 := by
      rcases c with q | q
      · exact absurd (i3_m1e q) d
      · exact q
    obtain ⟨g1, g2, g3, g4⟩ := fr_f hR hf
    have hp := g3.2.2.2.2.2.2.2.2.2.2.1
    have p1 : I (r + 4 + 4 * x1.toNatClampNeg + 2) 1 = rl_cnt (I 85 (9 * (x1.toNatClampNeg + 1) + 4)) := by rw [fv_2 (I := I) g1]; exact hp.2.1
    have p3 := cnt_b hp.1
    have hg := ow_f hf.1
    rw [p1]
    refine ⟨g4, fun a => shared ?_, fun a => ?_⟩
    · unfold ef_g
      rw [hg]
      by_cases z : I 85 (9 * (x1.toNatClampNeg + 1) + 4) = 0
      · rw [if_pos z]
      · have := (p3.2.2.2 z).2
        simp only [Int32.lt_iff_toInt_lt, Int32.le_iff_toInt_le, Int32.toInt_add, Int32.toInt_sub, Int32.toInt_mul, Int.bmod_def, i3_m1, i3_0, i3_1, i3_2, i3_3, i3_4, i3_5, i3_6, i3_7, i3_8, i3_9, i3_10, i3_15, i3_16, i3_19, i3_20, i3_24, i3_31, i3_33, i3_44, i3_45, i3_48, i3_49, i3_59, i3_63, i3_64, i3_80, i3_100, i3_192, i3_200000, i3_254, i3_255, i3_256, i3_800, i3_16777215, i3_16777216] at a
        omega
    · have z : ¬ I 85 (9 * (x1.toNatClampNeg + 1) + 4) = 0 := fun z => by
        have := p3.2.2.1 z
        rw [this] at a
        exact a (by decide)
      have he : ef_g (I 85) (ow_g x1) = x1.toNatClampNeg + 1 := by
        unfold ef_g
        rw [hg, if_neg z]
      rw [he] at h2 fin
      refine ⟨fun a => h2 ?_, fun a => ⟨fun b => h2 ?_, fun b => ⟨?_, ?_⟩⟩⟩
      · simp only [Int32.lt_iff_toInt_lt, Int32.le_iff_toInt_le, Int32.toInt_add, Int32.toInt_sub, Int32.toInt_mul, Int.bmod_def, i3_m1, i3_0, i3_1, i3_2, i3_3, i3_4, i3_5, i3_6, i3_7, i3_8, i3_9, i3_10, i3_15, i3_16, i3_19, i3_20, i3_24, i3_31, i3_33, i3_44, i3_45, i3_48, i3_49, i3_59, i3_63, i3_64, i3_80, i3_100, i3_192, i3_200000, i3_254, i3_255, i3_256, i3_800, i3_16777215, i3_16777216] at a; omega
      · simp only [Int32.lt_iff_toInt_lt, Int32.le_iff_toInt_le, Int32.toInt_add, Int32.toInt_sub, Int32.toInt_mul, Int.bmod_def, i3_m1, i3_0, i3_1, i3_2, i3_3, i3_4, i3_5, i3_6, i3_7, i3_8, i3_9, i3_10, i3_15, i3_16, i3_19, i3_20, i3_24, i3_31, i3_33, i3_44, i3_45, i3_48, i3_49, i3_59, i3_63, i3_64, i3_80, i3_100, i3_192, i3_200000, i3_254, i3_255, i3_256, i3_800, i3_16777215, i3_16777216] at a b; omega
      · rw [vp_iff]; simp only [Int32.lt_iff_toInt_lt, Int32.le_iff_toInt_le, Int32.toInt_add, Int32.toInt_sub, Int32.toInt_mul, Int.bmod_def, i3_m1, i3_0, i3_1, i3_2, i3_3, i3_4, i3_5, i3_6, i3_7, i3_8, i3_9, i3_10, i3_15, i3_16, i3_19, i3_20, i3_24, i3_31, i3_33, i3_44, i3_45, i3_48, i3_49, i3_59, i3_63, i3_64, i3_80, i3_100, i3_192, i3_200000, i3_254, i3_255, i3_256, i3_800, i3_16777215, i3_16777216] at a b; omega
      · have t2 := i3_tn x2
        have hk : x2.toNatClampNeg < 16 := by simp only [Int32.lt_iff_toInt_lt, Int32.le_iff_toInt_le, Int32.toInt_add, Int32.toInt_sub, Int32.toInt_mul, Int.bmod_def, i3_m1, i3_0, i3_1, i3_2, i3_3, i3_4, i3_5, i3_6, i3_7, i3_8, i3_9, i3_10, i3_15, i3_16, i3_19, i3_20, i3_24, i3_31, i3_33, i3_44, i3_45, i3_48, i3_49, i3_59, i3_63, i3_64, i3_80, i3_100, i3_192, i3_200000, i3_254, i3_255, i3_256, i3_800, i3_16777215, i3_16777216] at a b; omega
        refine fin (by simp only [Int32.lt_iff_toInt_lt, Int32.le_iff_toInt_le, Int32.toInt_add, Int32.toInt_sub, Int32.toInt_mul, Int.bmod_def, i3_m1, i3_0, i3_1, i3_2, i3_3, i3_4, i3_5, i3_6, i3_7, i3_8, i3_9, i3_10, i3_15, i3_16, i3_19, i3_20, i3_24, i3_31, i3_33, i3_44, i3_45, i3_48, i3_49, i3_59, i3_63, i3_64, i3_80, i3_100, i3_192, i3_200000, i3_254, i3_255, i3_256, i3_800, i3_16777215, i3_16777216] at a b; omega) _ ?_
        rw [fv_3 (I := I) g1]
        exact (hp.2.2 _ hk).1.symm
  · have d' := Classical.not_not.mp d
    unfold ef_g
    have hg : ow_g x1 = 0 := by rw [d']; rfl
    rw [hg]
    split <;> rfl
theorem cm_bits {c : rl_M} (hR : rb_R c (I 84 1) (I 85) (I 86) (I 87)) (ho : ow_in (I 84 1) x1) (h : Q (.inl (some (.int (I 85 (9 * ef_g (I 85) (ow_g x1) + 4))))) (I, J, rf_w r, sh_w N, n)) :
    mc_WP (mc_en 60 [.ref 84, .int x1] (I, J, rf_w r, sh_w N, n)) Q := by
  have hb := hR.1
  have hh : -1 ≤ x1.toInt ∧ x1.toInt < 4 := by unfold ow_in fr_in at ho; omega
  have e := ix_9g (k := 4) hh (by decide)
  rw [show ((4 : Int32).toInt).toNat = 4 from rfl] at e
  have hp : 0 ≤ (I 85 (9 * ow_g x1 + 4)).toInt := by
    rcases ow_pal hR ho with q | q
    · rw [q.2]; exact hR.2.2.2.2.2.2.2.2.1.1.1
    · rw [q.2.1]; exact q.2.2.1.1
  refine bk_60_0 ⟨e.2, ?_⟩
  rw [e.1]
  unfold ef_g at h
  refine ⟨fun a => ?_, fun a => ?_⟩
  · rw [if_pos (by rw [← Int32.toInt_inj]; simp only [Int32.lt_iff_toInt_lt, Int32.le_iff_toInt_le, Int32.toInt_add, Int32.toInt_sub, Int32.toInt_mul, Int.bmod_def, i3_m1, i3_0, i3_1, i3_2, i3_3, i3_4, i3_5, i3_6, i3_7, i3_8, i3_9, i3_10, i3_15, i3_16, i3_19, i3_20, i3_24, i3_31, i3_33, i3_44, i3_45, i3_48, i3_49, i3_59, i3_63, i3_64, i3_80, i3_100, i3_192, i3_200000, i3_254, i3_255, i3_256, i3_800, i3_16777215, i3_16777216] at a ⊢; omega)] at h
    exact h
  · rw [if_neg (fun z => a (by rw [z]; decide))] at h
    exact h
theorem cm_colourOf {c : rl_M} (hR : rb_R c (I 84 1) (I 85) (I 86) (I 87)) (hc : co_in (I 84 1) (I 85) x1 x2) (h : Q (.inl (some (.int (I 86 (16 * ef_g (I 85) (ow_g x1) + x2.toNatClampNeg))))) (I, J, rf_w r, sh_w N, n)) :
    mc_WP (mc_en 73 [.ref 84, .int x1, .int x2] (I, J, rf_w r, sh_w N, n)) Q := by
  have hb := hR.1
  obtain ⟨ho, h0, hk⟩ := hc
  have hh : -1 ≤ x1.toInt ∧ x1.toInt < 4 := by unfold ow_in fr_in at ho; omega
  have e := ix_9g (k := 4) hh (by decide)
  rw [show ((4 : Int32).toInt).toNat = 4 from rfl] at e
  have hp : 0 ≤ (I 85 (9 * ow_g x1 + 4)).toInt ∧ (I 85 (9 * ow_g x1 + 4)).toInt ≤ 4 := by
    rcases ow_pal hR ho with q | q
    · rw [q.2]; exact hR.2.2.2.2.2.2.2.2.1.1
    · rw [q.2.1]; exact q.2.2.1
  have h16 : x2.toInt ≤ 15 := by
    unfold ef_g at hk
    split at hk
    · have := (cnt_b hR.2.2.2.2.2.2.2.2.1.1).2.1; rw [show 9 * 0 + 4 = 4 from rfl] at this hk; omega
    · have := (cnt_b hp).2.1; omega
  have e6 := ix_16g (k := x2) hh ⟨h0, h16⟩
  rw [← i3_tn] at e6
  refine bk_73_0 ⟨e.2, ?_⟩
  rw [e.1, e6.1]
  unfold ef_g at h
  refine ⟨fun a => ⟨?_, ?_⟩, fun a => ⟨e6.2, ?_⟩⟩
  · rw [vp_iff]; simp only [Int32.lt_iff_toInt_lt, Int32.le_iff_toInt_le, Int32.toInt_add, Int32.toInt_sub, Int32.toInt_mul, Int.bmod_def, i3_m1, i3_0, i3_1, i3_2, i3_3, i3_4, i3_5, i3_6, i3_7, i3_8, i3_9, i3_10, i3_15, i3_16, i3_19, i3_20, i3_24, i3_31, i3_33, i3_44, i3_45, i3_48, i3_49, i3_59, i3_63, i3_64, i3_80, i3_100, i3_192, i3_200000, i3_254, i3_255, i3_256, i3_800, i3_16777215, i3_16777216]; omega
  · rw [if_pos (by rw [← Int32.toInt_inj]; simp only [Int32.lt_iff_toInt_lt, Int32.le_iff_toInt_le, Int32.toInt_add, Int32.toInt_sub, Int32.toInt_mul, Int.bmod_def, i3_m1, i3_0, i3_1, i3_2, i3_3, i3_4, i3_5, i3_6, i3_7, i3_8, i3_9, i3_10, i3_15, i3_16, i3_19, i3_20, i3_24, i3_31, i3_33, i3_44, i3_45, i3_48, i3_49, i3_59, i3_63, i3_64, i3_80, i3_100, i3_192, i3_200000, i3_254, i3_255, i3_256, i3_800, i3_16777215, i3_16777216] at a ⊢; omega)] at h
    rw [show (16 : Int32) * 0 + x2 = x2 from by rw [show (16 : Int32) * 0 = 0 from rfl, Int32.zero_add]]
    rw [Nat.mul_zero, Nat.zero_add] at h
    exact h
  · rw [if_neg (fun z => a (by rw [z]; decide))] at h
    exact h
theorem cm_colourAt {c : rl_M} (hR : rb_R c (I 84 1) (I 85) (I 86) (I 87)) (h1 : co_in (I 84 1) (I 85) x1 x2 → Q (.inl (some (.int (I 86 (16 * ef_g (I 85) (ow_g x1) + x2.toNatClampNeg))))) (mc_up I 84 0 0, J, rf_w r, sh_w N, n)) (h2 : ¬ co_in (I 84 1) (I 85) x1 x2 → Q (.inl (some (.int 0))) (mc_up I 84 0 1, J, rf_w r, sh_w N, n)) :
    mc_WP (mc_en 74 [.ref 84, .int x1, .int x2] (I, J, rf_w r, sh_w N, n)) Q := by
  have hb := hR.1
  have hR' : rb_R c (mc_up I 84 0 0 84 1) (mc_up I 84 0 0 85) (mc_up I 84 0 0 86) (mc_up I 84 0 0 87) := by
    rw [up_nk (by decide), up_ne (by decide), up_ne (by decide), up_ne (by decide)]; exact hR
  have go : ow_in (I 84 1) x1 → ¬ x2 < 0 → mc_WP (mc_en 60 [.ref 84, .int x1] (I, J, rf_w r, sh_w N, n)) (mc_kr (fun v t => mc_WP (74, 24, [.ref 84, .int x1, .int x2, .null], v.toList ++ [.int 1, .int x2], t, (0, 0)) Q) (fun k t => Q (.inr k) t)) := by
    intro ho h0
    have hp : 0 ≤ (I 85 (9 * ef_g (I 85) (ow_g x1) + 4)).toInt ∧ (I 85 (9 * ef_g (I 85) (ow_g x1) + 4)).toInt ≤ 4 ∧ ¬ I 85 (9 * ef_g (I 85) (ow_g x1) + 4) = 0 := by
      have a1 := hR.2.2.2.2.2.2.2.2.1.1
      have a2 := hR.2.2.2.2.2.2.2.1
      unfold ef_g
      split
      · exact ⟨a1.1, a1.2, fun z => by rw [show 9 * 0 + 4 = 4 from rfl] at z; rw [z] at a2; exact absurd a2 (by decide)⟩
      · rename_i z
        rcases ow_pal hR ho with q | q
        · rw [q.2] at z ⊢; exact ⟨a1.1, a1.2, z⟩
        · rw [q.2.1] at z ⊢; exact ⟨q.2.2.1.1, q.2.2.1.2, z⟩
    have hc := (cnt_b ⟨hp.1, hp.2.1⟩).2.2.2 hp.2.2
    refine cm_bits hR ho ?_
    refine bk_74_24 ⟨fun a => h2 ?_, fun a => mc_inl ?_⟩
    · rw [← hc.1] at a
      unfold co_in
      simp only [Int32.lt_iff_toInt_lt, Int32.le_iff_toInt_le, Int32.toInt_add, Int32.toInt_sub, Int32.toInt_mul, Int.bmod_def, i3_m1, i3_0, i3_1, i3_2, i3_3, i3_4, i3_5, i3_6, i3_7, i3_8, i3_9, i3_10, i3_15, i3_16, i3_19, i3_20, i3_24, i3_31, i3_33, i3_44, i3_45, i3_48, i3_49, i3_59, i3_63, i3_64, i3_80, i3_100, i3_192, i3_200000, i3_254, i3_255, i3_256, i3_800, i3_16777215, i3_16777216] at a h0; omega
    · rw [← hc.1] at a
      have hin : co_in (I 84 1) (I 85) x1 x2 := ⟨ho, by simp only [Int32.lt_iff_toInt_lt, Int32.le_iff_toInt_le, Int32.toInt_add, Int32.toInt_sub, Int32.toInt_mul, Int.bmod_def, i3_m1, i3_0, i3_1, i3_2, i3_3, i3_4, i3_5, i3_6, i3_7, i3_8, i3_9, i3_10, i3_15, i3_16, i3_19, i3_20, i3_24, i3_31, i3_33, i3_44, i3_45, i3_48, i3_49, i3_59, i3_63, i3_64, i3_80, i3_100, i3_192, i3_200000, i3_254, i3_255, i3_256, i3_800, i3_16777215, i3_16777216] at h0; omega, by simp only [Int32.lt_iff_toInt_lt, Int32.le_iff_toInt_le, Int32.toInt_add, Int32.toInt_sub, Int32.toInt_mul, Int.bmod_def, i3_m1, i3_0, i3_1, i3_2, i3_3, i3_4, i3_5, i3_6, i3_7, i3_8, i3_9, i3_10, i3_15, i3_16, i3_19, i3_20, i3_24, i3_31, i3_33, i3_44, i3_45, i3_48, i3_49, i3_59, i3_63, i3_64, i3_80, i3_100, i3_192, i3_200000, i3_254, i3_255, i3_256, i3_800, i3_16777215, i3_16777216] at a; omega⟩
      refine cm_colourOf hR' (by rw [up_nk (by decide), up_ne (by decide)]; exact hin) ?_
      rw [up_ne (by decide), up_ne (by decide)]
      exact bk_74_57 (h1 hin)
  refine bk_74_0 ⟨fun a => ⟨fun b => h2 ?_, fun b => mc_inl (go (Or.inl (i3_ne.mp a)) b)⟩, fun a => mc_inl ?_⟩
  · unfold co_in; simp only [Int32.lt_iff_toInt_lt, Int32.le_iff_toInt_le, Int32.toInt_add, Int32.toInt_sub, Int32.toInt_mul, Int.bmod_def, i3_m1, i3_0, i3_1, i3_2, i3_3, i3_4, i3_5, i3_6, i3_7, i3_8, i3_9, i3_10, i3_15, i3_16, i3_19, i3_20, i3_24, i3_31, i3_33, i3_44, i3_45, i3_48, i3_49, i3_59, i3_63, i3_64, i3_80, i3_100, i3_192, i3_200000, i3_254, i3_255, i3_256, i3_800, i3_16777215, i3_16777216] at b; omega
  · rw [i3_ne] at a
    refine bk_58_0 ⟨fun b => ?_, fun b => ⟨fun d => ?_, fun d => ?_⟩⟩
    · refine bk_74_10 ⟨fun _ => h2 ?_, fun q => absurd rfl q⟩
      unfold co_in ow_in fr_in; simp only [Int32.lt_iff_toInt_lt, Int32.le_iff_toInt_le, Int32.toInt_add, Int32.toInt_sub, Int32.toInt_mul, Int.bmod_def, i3_m1, i3_0, i3_1, i3_2, i3_3, i3_4, i3_5, i3_6, i3_7, i3_8, i3_9, i3_10, i3_15, i3_16, i3_19, i3_20, i3_24, i3_31, i3_33, i3_44, i3_45, i3_48, i3_49, i3_59, i3_63, i3_64, i3_80, i3_100, i3_192, i3_200000, i3_254, i3_255, i3_256, i3_800, i3_16777215, i3_16777216] at b; omega
    · refine bk_74_10 ⟨fun _ => h2 ?_, fun q => absurd rfl q⟩
      unfold co_in ow_in fr_in; simp only [Int32.lt_iff_toInt_lt, Int32.le_iff_toInt_le, Int32.toInt_add, Int32.toInt_sub, Int32.toInt_mul, Int.bmod_def, i3_m1, i3_0, i3_1, i3_2, i3_3, i3_4, i3_5, i3_6, i3_7, i3_8, i3_9, i3_10, i3_15, i3_16, i3_19, i3_20, i3_24, i3_31, i3_33, i3_44, i3_45, i3_48, i3_49, i3_59, i3_63, i3_64, i3_80, i3_100, i3_192, i3_200000, i3_254, i3_255, i3_256, i3_800, i3_16777215, i3_16777216] at b d; omega
    · refine bk_74_10 ⟨fun q => absurd q (by decide), fun _ => ⟨fun e => h2 ?_, fun e => mc_inl (go (Or.inr ?_) e)⟩⟩
      · unfold co_in; simp only [Int32.lt_iff_toInt_lt, Int32.le_iff_toInt_le, Int32.toInt_add, Int32.toInt_sub, Int32.toInt_mul, Int.bmod_def, i3_m1, i3_0, i3_1, i3_2, i3_3, i3_4, i3_5, i3_6, i3_7, i3_8, i3_9, i3_10, i3_15, i3_16, i3_19, i3_20, i3_24, i3_31, i3_33, i3_44, i3_45, i3_48, i3_49, i3_59, i3_63, i3_64, i3_80, i3_100, i3_192, i3_200000, i3_254, i3_255, i3_256, i3_800, i3_16777215, i3_16777216] at e; omega
      · unfold fr_in; simp only [Int32.lt_iff_toInt_lt, Int32.le_iff_toInt_le, Int32.toInt_add, Int32.toInt_sub, Int32.toInt_mul, Int.bmod_def, i3_m1, i3_0, i3_1, i3_2, i3_3, i3_4, i3_5, i3_6, i3_7, i3_8, i3_9, i3_10, i3_15, i3_16, i3_19, i3_20, i3_24, i3_31, i3_33, i3_44, i3_45, i3_48, i3_49, i3_59, i3_63, i3_64, i3_80, i3_100, i3_192, i3_200000, i3_254, i3_255, i3_256, i3_800, i3_16777215, i3_16777216] at b d; omega
theorem lc_colourAt (hI : rl_I r I) (hN : N ≤ 3074) (hx : 0 ≤ x4.toInt ∧ x4.toInt + 6 ≤ N) (hu : u.1 + 3 ≤ 601024 ∧ u.2 + 18 ≤ 7293000) (hn : lw_nx N x4 u Q) : mc_WP (42, 642, [.ref 1, .ref 10, .ref 84, .ref 105, .int x4, x5, x6], [], (I, J, rf_w r, sh_w N, n), u) Q := by
  have hI' := hI
  obtain ⟨hr, hR, hB, hP, hC, hK⟩ := hI
  refine bk_42_642 ⟨lw_i hN hx (by decide), lw_i hN hx (by decide), by omega, by omega, mc_inl ?_⟩
  refine cw_colourAt hr hR (fun c => ?_) (fun c => ?_)
  · refine bk_42_659 ⟨lw_i hN hx (by decide), lw_i hN hx (by decide), by show u.1 + 2 + 0 ≤ _; omega, by show u.2 + 12 + 0 ≤ _; omega, mc_inl ?_⟩
    refine cm_colourAt hR (fun _ => ?_) (fun q => absurd c q)
    exact le_677 hI'.thr up_at (fun _ => if_pos ⟨rfl, rfl⟩) hu (by constructor <;> show _ + _ ≤ _ <;> omega) hn
  · refine bk_42_659 ⟨lw_i hN hx (by decide), lw_i hN hx (by decide), by show u.1 + 2 + 0 ≤ _; omega, by show u.2 + 12 + 0 ≤ _; omega, mc_inl ?_⟩
    refine cm_colourAt hR (fun q => absurd q c) (fun _ => ?_)
    exact le_677 hI'.thr up_at (fun q => absurd q (by decide)) hu (by constructor <;> show _ + _ ≤ _ <;> omega) hn
end
