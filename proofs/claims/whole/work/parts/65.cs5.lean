section
variable {I : rl_M} {J : Nat → Nat → Int64} {r N n : Nat} {Q : mc_Q} {x4 : Int32} {x5 x6 : Value} {u : mc_U} {x1 x y v : Int32} {f k : Nat}
theorem fv_0 (hf : f < 4) : I (r + 4 + 4 * f) k = rl_v r I (4 + 4 * f) k := by
  rw [rl_v0 _ _ _ _ (by omega), show r + (4 + 4 * f) = r + 4 + 4 * f by omega]
theorem fv_1 (hf : f < 4) : I (r + 4 + 4 * f + 1) k = rl_v r I (4 + 4 * f + 1) k := by
  rw [rl_v0 _ _ _ _ (by omega), show r + (4 + 4 * f + 1) = r + 4 + 4 * f + 1 by omega]
theorem fv_2 (hf : f < 4) : I (r + 4 + 4 * f + 2) k = rl_v r I (4 + 4 * f + 2) k := by
  rw [rl_v0 _ _ _ _ (by omega), show r + (4 + 4 * f + 2) = r + 4 + 4 * f + 2 by omega]
theorem fv_3 (hf : f < 4) : I (r + 4 + 4 * f + 2 + 1) k = rl_v r I (4 + 4 * f + 2 + 1) k := by
  rw [rl_v0 _ _ _ _ (by omega), show r + (4 + 4 * f + 2 + 1) = r + 4 + 4 * f + 2 + 1 by omega]
/-- a frame that is there -/
def fr_in (n x1 : Int32) : Prop := 0 ≤ x1.toInt ∧ x1.toInt < n.toInt
theorem fr_f {c : rl_M} {m : Int32} {hs cs ps : rl_A} (hR : rb_R c m hs cs ps) (h : fr_in m x1) : x1.toNatClampNeg < 4 ∧ (x1.toNatClampNeg : Int) = x1.toInt ∧ rb_F c hs cs ps x1.toNatClampNeg ∧ vp_in x1 4 := by
  unfold fr_in at h
  have h1 := hR.1
  have h2 := i3_tn x1
  refine ⟨by omega, by omega, hR.2.2.2.2.2.2.2.2.2 _ (by omega), ?_⟩
  rw [vp_iff]
  omega
theorem ix_9 {k : Int32} (h : 0 ≤ x1.toInt ∧ x1.toInt < 4) (hk : 0 ≤ k.toInt ∧ k.toInt ≤ 8) : ((9 : Int32) * (x1 + 1) + k).toNatClampNeg = 9 * (x1.toNatClampNeg + 1) + k.toNatClampNeg ∧ vp_in ((9 : Int32) * (x1 + 1) + k) 45 := by
  rw [vp_iff, i3_tn, i3_tn, i3_tn]
  have e : ((9 : Int32) * (x1 + 1) + k).toInt = 9 * (x1.toInt + 1) + k.toInt := by
    simp only [Int32.lt_iff_toInt_lt, Int32.le_iff_toInt_le, Int32.toInt_add, Int32.toInt_sub, Int32.toInt_mul, Int.bmod_def, i3_m1, i3_0, i3_1, i3_2, i3_3, i3_4, i3_5, i3_6, i3_7, i3_8, i3_9, i3_10, i3_15, i3_16, i3_19, i3_20, i3_24, i3_31, i3_33, i3_44, i3_45, i3_48, i3_49, i3_59, i3_63, i3_64, i3_80, i3_100, i3_192, i3_200000, i3_254, i3_255, i3_256, i3_800, i3_16777215, i3_16777216]
    omega
  rw [e]
  omega
theorem ix_64 (h : 0 ≤ x1.toInt ∧ x1.toInt < 4) (hx : 0 ≤ x.toInt ∧ x.toInt < 8) (hy : 0 ≤ y.toInt ∧ y.toInt < 8) : ((64 : Int32) * x1 + (8 : Int32) * y + x).toNatClampNeg = 64 * x1.toNatClampNeg + 8 * y.toNatClampNeg + x.toNatClampNeg ∧ vp_in ((64 : Int32) * x1 + (8 : Int32) * y + x) 256 := by
  rw [vp_iff, i3_tn, i3_tn, i3_tn, i3_tn]
  have e : ((64 : Int32) * x1 + (8 : Int32) * y + x).toInt = 64 * x1.toInt + 8 * y.toInt + x.toInt := by
    simp only [Int32.lt_iff_toInt_lt, Int32.le_iff_toInt_le, Int32.toInt_add, Int32.toInt_sub, Int32.toInt_mul, Int.bmod_def, i3_m1, i3_0, i3_1, i3_2, i3_3, i3_4, i3_5, i3_6, i3_7, i3_8, i3_9, i3_10, i3_15, i3_16, i3_19, i3_20, i3_24, i3_31, i3_33, i3_44, i3_45, i3_48, i3_49, i3_59, i3_63, i3_64, i3_80, i3_100, i3_192, i3_200000, i3_254, i3_255, i3_256, i3_800, i3_16777215, i3_16777216]
    omega
  rw [e]
  omega
theorem ix_8 (hx : 0 ≤ x.toInt ∧ x.toInt < 8) (hy : 0 ≤ y.toInt ∧ y.toInt < 8) : (y * (8 : Int32) + x).toNatClampNeg = 8 * y.toNatClampNeg + x.toNatClampNeg ∧ vp_in (y * (8 : Int32) + x) 64 := by
  rw [vp_iff, i3_tn, i3_tn, i3_tn]
  have e : (y * (8 : Int32) + x).toInt = 8 * y.toInt + x.toInt := by
    simp only [Int32.lt_iff_toInt_lt, Int32.le_iff_toInt_le, Int32.toInt_add, Int32.toInt_sub, Int32.toInt_mul, Int.bmod_def, i3_m1, i3_0, i3_1, i3_2, i3_3, i3_4, i3_5, i3_6, i3_7, i3_8, i3_9, i3_10, i3_15, i3_16, i3_19, i3_20, i3_24, i3_31, i3_33, i3_44, i3_45, i3_48, i3_49, i3_59, i3_63, i3_64, i3_80, i3_100, i3_192, i3_200000, i3_254, i3_255, i3_256, i3_800, i3_16777215, i3_16777216]
    omega
  rw [e]
  omega
/-- a pixel that is there -/
def px_in (n : Int32) (hs : rl_A) (x1 x y : Int32) : Prop := fr_in n x1 ∧ (0 ≤ x.toInt ∧ x.toInt < (hs (9 * (x1.toNatClampNeg + 1) + 2)).toInt) ∧ (0 ≤ y.toInt ∧ y.toInt < (hs (9 * (x1.toNatClampNeg + 1) + 3)).toInt)
theorem px_b {c : rl_M} {m : Int32} {hs cs ps : rl_A} (hR : rb_R c m hs cs ps) (h : px_in m hs x1 x y) : (0 ≤ x.toInt ∧ x.toInt < 8) ∧ (0 ≤ y.toInt ∧ y.toInt < 8) ∧ (0 ≤ x1.toInt ∧ x1.toInt < 4) := by
  obtain ⟨h1, h2, h3⟩ := h
  obtain ⟨g1, g2, g3, g4⟩ := fr_f hR h1
  obtain ⟨-, -, -, -, w, hh, -⟩ := g3
  unfold fr_in at h1
  omega
theorem cc_rpix (hr : is_R r) (hR : rb_R (rl_v r I) (I 84 1) (I 85) (I 86) (I 87)) (h1 : px_in (I 84 1) (I 85) x1 x y → Q (.inl none) (I, J, rf_w r, sh_w N, n)) (h2 : ¬ px_in (I 84 1) (I 85) x1 x y → Q (.inr 1) (I, J, rf_w r, sh_w N, 0)) :
    mc_WP (mc_en 16 [.ref 10, .int x1, .int x, .int y] (I, J, rf_w r, sh_w N, n)) Q := by
  unfold px_in at h1 h2
  have hc : I r 4 = I 84 1 := by have := hR.2.1; rw [rl_v0 _ _ _ _ (by decide)] at this; exact this
  have hb := hR.1
  refine bk_16_0 hr ⟨fun c => h2 ?_, fun c => ⟨fun d => h2 ?_, fun d => ?_⟩⟩
  · unfold fr_in; simp only [Int32.lt_iff_toInt_lt, Int32.le_iff_toInt_le, Int32.toInt_add, Int32.toInt_sub, Int32.toInt_mul, Int.bmod_def, i3_m1, i3_0, i3_1, i3_2, i3_3, i3_4, i3_5, i3_6, i3_7, i3_8, i3_9, i3_10, i3_15, i3_16, i3_19, i3_20, i3_24, i3_31, i3_33, i3_44, i3_45, i3_48, i3_49, i3_59, i3_63, i3_64, i3_80, i3_100, i3_192, i3_200000, i3_254, i3_255, i3_256, i3_800, i3_16777215, i3_16777216] at c; omega
  · rw [hc] at d; unfold fr_in; simp only [Int32.lt_iff_toInt_lt, Int32.le_iff_toInt_le, Int32.toInt_add, Int32.toInt_sub, Int32.toInt_mul, Int.bmod_def, i3_m1, i3_0, i3_1, i3_2, i3_3, i3_4, i3_5, i3_6, i3_7, i3_8, i3_9, i3_10, i3_15, i3_16, i3_19, i3_20, i3_24, i3_31, i3_33, i3_44, i3_45, i3_48, i3_49, i3_59, i3_63, i3_64, i3_80, i3_100, i3_192, i3_200000, i3_254, i3_255, i3_256, i3_800, i3_16777215, i3_16777216] at c d; omega
  · have hf : fr_in (I 84 1) x1 := by rw [hc] at d; unfold fr_in; simp only [Int32.lt_iff_toInt_lt, Int32.le_iff_toInt_le, Int32.toInt_add, Int32.toInt_sub, Int32.toInt_mul, Int.bmod_def, i3_m1, i3_0, i3_1, i3_2, i3_3, i3_4, i3_5, i3_6, i3_7, i3_8, i3_9, i3_10, i3_15, i3_16, i3_19, i3_20, i3_24, i3_31, i3_33, i3_44, i3_45, i3_48, i3_49, i3_59, i3_63, i3_64, i3_80, i3_100, i3_192, i3_200000, i3_254, i3_255, i3_256, i3_800, i3_16777215, i3_16777216] at c d; omega
    obtain ⟨g1, g2, g3, g4⟩ := fr_f hR hf
    have e1 : I (r + 4 + 4 * x1.toNatClampNeg) 4 = I 85 (9 * (x1.toNatClampNeg + 1) + 2) := by rw [fv_0 (I := I) g1]; exact g3.1 2 (by decide)
    have e2 : I (r + 4 + 4 * x1.toNatClampNeg) 5 = I 85 (9 * (x1.toNatClampNeg + 1) + 3) := by rw [fv_0 (I := I) g1]; exact g3.1 3 (by decide)
    rw [e1, e2]
    refine ⟨g4, fun a => h2 ?_, fun a => ⟨fun b => h2 ?_, fun b => ⟨fun a' => h2 ?_, fun a' => ⟨fun b' => h2 ?_, fun b' => h1 ?_⟩⟩⟩⟩
    · simp only [Int32.lt_iff_toInt_lt, Int32.le_iff_toInt_le, Int32.toInt_add, Int32.toInt_sub, Int32.toInt_mul, Int.bmod_def, i3_m1, i3_0, i3_1, i3_2, i3_3, i3_4, i3_5, i3_6, i3_7, i3_8, i3_9, i3_10, i3_15, i3_16, i3_19, i3_20, i3_24, i3_31, i3_33, i3_44, i3_45, i3_48, i3_49, i3_59, i3_63, i3_64, i3_80, i3_100, i3_192, i3_200000, i3_254, i3_255, i3_256, i3_800, i3_16777215, i3_16777216] at a; omega
    · simp only [Int32.lt_iff_toInt_lt, Int32.le_iff_toInt_le, Int32.toInt_add, Int32.toInt_sub, Int32.toInt_mul, Int.bmod_def, i3_m1, i3_0, i3_1, i3_2, i3_3, i3_4, i3_5, i3_6, i3_7, i3_8, i3_9, i3_10, i3_15, i3_16, i3_19, i3_20, i3_24, i3_31, i3_33, i3_44, i3_45, i3_48, i3_49, i3_59, i3_63, i3_64, i3_80, i3_100, i3_192, i3_200000, i3_254, i3_255, i3_256, i3_800, i3_16777215, i3_16777216] at a b; omega
    · simp only [Int32.lt_iff_toInt_lt, Int32.le_iff_toInt_le, Int32.toInt_add, Int32.toInt_sub, Int32.toInt_mul, Int.bmod_def, i3_m1, i3_0, i3_1, i3_2, i3_3, i3_4, i3_5, i3_6, i3_7, i3_8, i3_9, i3_10, i3_15, i3_16, i3_19, i3_20, i3_24, i3_31, i3_33, i3_44, i3_45, i3_48, i3_49, i3_59, i3_63, i3_64, i3_80, i3_100, i3_192, i3_200000, i3_254, i3_255, i3_256, i3_800, i3_16777215, i3_16777216] at a b a'; omega
    · simp only [Int32.lt_iff_toInt_lt, Int32.le_iff_toInt_le, Int32.toInt_add, Int32.toInt_sub, Int32.toInt_mul, Int.bmod_def, i3_m1, i3_0, i3_1, i3_2, i3_3, i3_4, i3_5, i3_6, i3_7, i3_8, i3_9, i3_10, i3_15, i3_16, i3_19, i3_20, i3_24, i3_31, i3_33, i3_44, i3_45, i3_48, i3_49, i3_59, i3_63, i3_64, i3_80, i3_100, i3_192, i3_200000, i3_254, i3_255, i3_256, i3_800, i3_16777215, i3_16777216] at a b a' b'; omega
    · refine ⟨hf, ?_⟩; simp only [Int32.lt_iff_toInt_lt, Int32.le_iff_toInt_le, Int32.toInt_add, Int32.toInt_sub, Int32.toInt_mul, Int.bmod_def, i3_m1, i3_0, i3_1, i3_2, i3_3, i3_4, i3_5, i3_6, i3_7, i3_8, i3_9, i3_10, i3_15, i3_16, i3_19, i3_20, i3_24, i3_31, i3_33, i3_44, i3_45, i3_48, i3_49, i3_59, i3_63, i3_64, i3_80, i3_100, i3_192, i3_200000, i3_254, i3_255, i3_256, i3_800, i3_16777215, i3_16777216] at a b a' b'; omega
theorem cm_isPixel {c : rl_M} (hR : rb_R c (I 84 1) (I 85) (I 86) (I 87)) (h1 : px_in (I 84 1) (I 85) x1 x y → Q (.inl (some (.int 1))) (I, J, rf_w r, sh_w N, n)) (h2 : ¬ px_in (I 84 1) (I 85) x1 x y → Q (.inl (some (.int 0))) (I, J, rf_w r, sh_w N, n)) :
    mc_WP (mc_en 67 [.ref 84, .int x1, .int x, .int y] (I, J, rf_w r, sh_w N, n)) Q := by
  unfold px_in at h1 h2
  have hb := hR.1
  refine bk_67_0 ⟨fun c => h2 ?_, fun c => ⟨fun d => h2 ?_, fun d => ?_⟩⟩
  · unfold fr_in; simp only [Int32.lt_iff_toInt_lt, Int32.le_iff_toInt_le, Int32.toInt_add, Int32.toInt_sub, Int32.toInt_mul, Int.bmod_def, i3_m1, i3_0, i3_1, i3_2, i3_3, i3_4, i3_5, i3_6, i3_7, i3_8, i3_9, i3_10, i3_15, i3_16, i3_19, i3_20, i3_24, i3_31, i3_33, i3_44, i3_45, i3_48, i3_49, i3_59, i3_63, i3_64, i3_80, i3_100, i3_192, i3_200000, i3_254, i3_255, i3_256, i3_800, i3_16777215, i3_16777216] at c; omega
  · unfold fr_in; simp only [Int32.lt_iff_toInt_lt, Int32.le_iff_toInt_le, Int32.toInt_add, Int32.toInt_sub, Int32.toInt_mul, Int.bmod_def, i3_m1, i3_0, i3_1, i3_2, i3_3, i3_4, i3_5, i3_6, i3_7, i3_8, i3_9, i3_10, i3_15, i3_16, i3_19, i3_20, i3_24, i3_31, i3_33, i3_44, i3_45, i3_48, i3_49, i3_59, i3_63, i3_64, i3_80, i3_100, i3_192, i3_200000, i3_254, i3_255, i3_256, i3_800, i3_16777215, i3_16777216] at c d; omega
  · have hf : fr_in (I 84 1) x1 := by unfold fr_in; simp only [Int32.lt_iff_toInt_lt, Int32.le_iff_toInt_le, Int32.toInt_add, Int32.toInt_sub, Int32.toInt_mul, Int.bmod_def, i3_m1, i3_0, i3_1, i3_2, i3_3, i3_4, i3_5, i3_6, i3_7, i3_8, i3_9, i3_10, i3_15, i3_16, i3_19, i3_20, i3_24, i3_31, i3_33, i3_44, i3_45, i3_48, i3_49, i3_59, i3_63, i3_64, i3_80, i3_100, i3_192, i3_200000, i3_254, i3_255, i3_256, i3_800, i3_16777215, i3_16777216] at c d; omega
    obtain ⟨g1, g2, g3, g4⟩ := fr_f hR hf
    have e1 := ix_9 (x1 := x1) (k := 2) (by unfold fr_in at hf; omega) (by decide)
    have e2 := ix_9 (x1 := x1) (k := 3) (by unfold fr_in at hf; omega) (by decide)
    rw [e1.1, e2.1]
    refine ⟨fun a => h2 ?_, fun a => ⟨e1.2, fun b => h2 ?_, fun b => ⟨fun a' => h2 ?_, fun a' => ⟨e2.2, fun b' => h2 ?_, fun b' => h1 ?_⟩⟩⟩⟩
    · simp only [Int32.lt_iff_toInt_lt, Int32.le_iff_toInt_le, Int32.toInt_add, Int32.toInt_sub, Int32.toInt_mul, Int.bmod_def, i3_m1, i3_0, i3_1, i3_2, i3_3, i3_4, i3_5, i3_6, i3_7, i3_8, i3_9, i3_10, i3_15, i3_16, i3_19, i3_20, i3_24, i3_31, i3_33, i3_44, i3_45, i3_48, i3_49, i3_59, i3_63, i3_64, i3_80, i3_100, i3_192, i3_200000, i3_254, i3_255, i3_256, i3_800, i3_16777215, i3_16777216] at a; omega
    · intro q; have := q.2.1.2; simp only [Int32.lt_iff_toInt_lt, Int32.le_iff_toInt_le, Int32.toInt_add, Int32.toInt_sub, Int32.toInt_mul, Int.bmod_def, i3_m1, i3_0, i3_1, i3_2, i3_3, i3_4, i3_5, i3_6, i3_7, i3_8, i3_9, i3_10, i3_15, i3_16, i3_19, i3_20, i3_24, i3_31, i3_33, i3_44, i3_45, i3_48, i3_49, i3_59, i3_63, i3_64, i3_80, i3_100, i3_192, i3_200000, i3_254, i3_255, i3_256, i3_800, i3_16777215, i3_16777216] at a b; exact absurd this (by show ¬ _ < (I 85 (9 * (x1.toNatClampNeg + 1) + 2)).toInt; have e : (2 : Int32).toNatClampNeg = 2 := rfl; rw [e] at b; omega)
    · simp only [Int32.lt_iff_toInt_lt, Int32.le_iff_toInt_le, Int32.toInt_add, Int32.toInt_sub, Int32.toInt_mul, Int.bmod_def, i3_m1, i3_0, i3_1, i3_2, i3_3, i3_4, i3_5, i3_6, i3_7, i3_8, i3_9, i3_10, i3_15, i3_16, i3_19, i3_20, i3_24, i3_31, i3_33, i3_44, i3_45, i3_48, i3_49, i3_59, i3_63, i3_64, i3_80, i3_100, i3_192, i3_200000, i3_254, i3_255, i3_256, i3_800, i3_16777215, i3_16777216] at a'; omega
    · intro q; have := q.2.2.2; simp only [Int32.lt_iff_toInt_lt, Int32.le_iff_toInt_le, Int32.toInt_add, Int32.toInt_sub, Int32.toInt_mul, Int.bmod_def, i3_m1, i3_0, i3_1, i3_2, i3_3, i3_4, i3_5, i3_6, i3_7, i3_8, i3_9, i3_10, i3_15, i3_16, i3_19, i3_20, i3_24, i3_31, i3_33, i3_44, i3_45, i3_48, i3_49, i3_59, i3_63, i3_64, i3_80, i3_100, i3_192, i3_200000, i3_254, i3_255, i3_256, i3_800, i3_16777215, i3_16777216] at a' b'; exact absurd this (by show ¬ _ < (I 85 (9 * (x1.toNatClampNeg + 1) + 3)).toInt; have e : (3 : Int32).toNatClampNeg = 3 := rfl; rw [e] at b'; omega)
    · have e3 : (2 : Int32).toNatClampNeg = 2 := rfl
      have e4 : (3 : Int32).toNatClampNeg = 3 := rfl
      rw [e3] at b; rw [e4] at b'
      refine ⟨hf, ?_⟩; simp only [Int32.lt_iff_toInt_lt, Int32.le_iff_toInt_le, Int32.toInt_add, Int32.toInt_sub, Int32.toInt_mul, Int.bmod_def, i3_m1, i3_0, i3_1, i3_2, i3_3, i3_4, i3_5, i3_6, i3_7, i3_8, i3_9, i3_10, i3_15, i3_16, i3_19, i3_20, i3_24, i3_31, i3_33, i3_44, i3_45, i3_48, i3_49, i3_59, i3_63, i3_64, i3_80, i3_100, i3_192, i3_200000, i3_254, i3_255, i3_256, i3_800, i3_16777215, i3_16777216] at a b a' b'; omega
def px_k (x1 x y : Int32) : Nat := 64 * x1.toNatClampNeg + 8 * y.toNatClampNeg + x.toNatClampNeg
theorem px_eq (hR : rb_R (rl_v r I) (I 84 1) (I 85) (I 86) (I 87)) (h : px_in (I 84 1) (I 85) x1 x y) : I (r + 4 + 4 * x1.toNatClampNeg + 1) (y * (8 : Int32) + x).toNatClampNeg = I 87 (px_k x1 x y) := by
  obtain ⟨b1, b2, b3⟩ := px_b hR h
  obtain ⟨g1, g2, g3, g4⟩ := fr_f hR h.1
  have t1 := i3_tn x
  have t2 := i3_tn y
  rw [fv_1 (I := I) g1, (ix_8 b1 b2).1]
  have := (g3.2.2.2.2.2.2.2.2.2.2.2 y.toNatClampNeg (by omega) x.toNatClampNeg (by omega)).1 (by have h2 := h.2; omega)
  exact this.1
theorem cw_pixelAt (hr : is_R r) (hR : rb_R (rl_v r I) (I 84 1) (I 85) (I 86) (I 87)) (h1 : px_in (I 84 1) (I 85) x1 x y → Q (.inl (some (.int 0))) (I, mc_up J 105 0 (I 87 (px_k x1 x y)).toInt64, rf_w r, sh_w N, n)) (h2 : ¬ px_in (I 84 1) (I 85) x1 x y → Q (.inl (some (.int 1))) (I, J, rf_w r, sh_w N, 0)) :
    mc_WP (mc_en 36 [.ref 10, .int x1, .int x, .int y, .ref 105] (I, J, rf_w r, sh_w N, n)) Q := by
  refine bk_36_0 (a4z := 1) rfl (mc_inl ?_)
  refine bk_8_0 (mc_inl ?_)
  refine cc_rpix hr hR (fun c => ?_) (fun c => h2 c)
  obtain ⟨b1, b2, b3⟩ := px_b hR c
  refine bk_8_7 hr ⟨(fr_f hR c.1).2.2.2, (ix_8 b1 b2).2, ?_⟩
  rw [px_eq hR c]
  exact bk_36_10 (a4z := 1) (b0z := 1) rfl rfl (by decide) ⟨by unfold vp_in; decide, h1 c⟩
theorem cm_pixelAt {c : rl_M} (hR : rb_R c (I 84 1) (I 85) (I 86) (I 87)) (h1 : px_in (I 84 1) (I 85) x1 x y → Q (.inl (some (.int (I 87 (px_k x1 x y))))) (mc_up I 84 0 0, J, rf_w r, sh_w N, n)) (h2 : ¬ px_in (I 84 1) (I 85) x1 x y → Q (.inl (some (.int 0))) (mc_up I 84 0 1, J, rf_w r, sh_w N, n)) :
    mc_WP (mc_en 75 [.ref 84, .int x1, .int x, .int y] (I, J, rf_w r, sh_w N, n)) Q := by
  refine bk_75_0 (mc_inl ?_)
  refine cm_isPixel hR (fun c => ?_) (fun c => ?_)
  · obtain ⟨b1, b2, b3⟩ := px_b hR c
    refine bk_75_7 ⟨fun q => absurd q (by decide), fun _ => ⟨fun q => absurd q (by decide), fun _ => ⟨(ix_64 b3 b1 b2).2, ?_⟩⟩⟩
    rw [(ix_64 b3 b1 b2).1]
    exact h1 c
  · exact bk_75_7 ⟨fun _ => ⟨fun _ => h2 c, fun q => absurd rfl q⟩, fun q => absurd rfl q⟩
theorem lc_pixelAt (hI : rl_I r I) (hN : N ≤ 3074) (hx : 0 ≤ x4.toInt ∧ x4.toInt + 6 ≤ N) (hu : u.1 + 3 ≤ 601024 ∧ u.2 + 18 ≤ 7293000) (hn : lw_nx N x4 u Q) : mc_WP (42, 710, [.ref 1, .ref 10, .ref 84, .ref 105, .int x4, x5, x6], [], (I, J, rf_w r, sh_w N, n), u) Q := by
  have hI' := hI
  obtain ⟨hr, hR, hB, hP, hC, hK⟩ := hI
  refine bk_42_710 ⟨lw_i hN hx (by decide), lw_i hN hx (by decide), lw_i hN hx (by decide), by omega, by omega, mc_inl ?_⟩
  refine cw_pixelAt hr hR (fun c => ?_) (fun c => ?_)
  · refine bk_42_733 ⟨lw_i hN hx (by decide), lw_i hN hx (by decide), lw_i hN hx (by decide), by show u.1 + 2 + 0 ≤ _; omega, by show u.2 + 12 + 0 ≤ _; omega, mc_inl ?_⟩
    refine cm_pixelAt hR (fun _ => ?_) (fun q => absurd c q)
    exact le_757 hI'.thr up_at (fun _ => if_pos ⟨rfl, rfl⟩) hu (by constructor <;> show _ + _ ≤ _ <;> omega) hn
  · refine bk_42_733 ⟨lw_i hN hx (by decide), lw_i hN hx (by decide), lw_i hN hx (by decide), by show u.1 + 2 + 0 ≤ _; omega, by show u.2 + 12 + 0 ≤ _; omega, mc_inl ?_⟩
    refine cm_pixelAt hR (fun q => absurd q c) (fun _ => ?_)
    exact le_757 hI'.thr up_at (fun q => absurd q (by decide)) hu (by constructor <;> show _ + _ ≤ _ <;> omega) hn
end
