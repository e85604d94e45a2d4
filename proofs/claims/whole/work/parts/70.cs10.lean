section
variable {I : rl_M} {J : Nat → Nat → Int64} {r N n : Nat} {Q : mc_Q} {x4 : Int32} {x5 x6 : Value} {u : mc_U} {x1 x2 x3 x y v b d z w : Int32} {f k g o : Nat}
/-- how many colours the frame's numbers have, as the class and as the reference find it -/
theorem fr_n (hR : rb_R (rl_v r I) (I 84 1) (I 85) (I 86) (I 87)) (hf : f < 4) (hF : rb_F (rl_v r I) (I 85) (I 86) (I 87) f) :
    (I (r + 4 + 4 * f + 2) 1 ≤ 0 → rb_n (I 85) f = I (r + 1) 1) ∧ (¬ I (r + 4 + 4 * f + 2) 1 ≤ 0 → rb_n (I 85) f = I (r + 4 + 4 * f + 2) 1) ∧
    (I 85 (9 * (f + 1) + 4) ≤ 0 → rb_n (I 85) f = 1 <<< (I 85 4 &&& 31)) ∧ (¬ I 85 (9 * (f + 1) + 4) ≤ 0 → rb_n (I 85) f = 1 <<< (I 85 (9 * (f + 1) + 4) &&& 31)) ∧ 2 ≤ (rb_n (I 85) f).toInt ∧ (rb_n (I 85) f).toInt ≤ 16 := by
  have h9 := hR.2.2.2.2.2.2.2.2.1
  have h8 := hR.2.2.2.2.2.2.2.1
  have s1 : I (r + 1) 1 = rl_cnt (I 85 4) := by have := h9.2.1; rw [rl_v0 _ _ _ _ (by decide)] at this; exact this
  have s3 := cnt_b h9.1
  rw [show 9 * 0 + 4 = 4 from rfl] at s3
  have z4 : ¬ I 85 4 = 0 := fun z => by rw [z] at h8; exact absurd h8 (by decide)
  have hp := hF.2.2.2.2.2.2.2.2.2.2.1
  have p1 : I (r + 4 + 4 * f + 2) 1 = rl_cnt (I 85 (9 * (f + 1) + 4)) := by rw [fv_2 (I := I) hf]; exact hp.2.1
  have p3 := cnt_b hp.1
  rw [s1, p1]
  unfold rb_n
  by_cases z : I 85 (9 * (f + 1) + 4) = 0
  · rw [if_pos z, z]
    exact ⟨fun _ => rfl, fun q => absurd (by decide) q, fun _ => (s3.2.2.2 z4).1, fun q => absurd (by decide) q, (s3.2.2.2 z4).2, s3.2.1⟩
  · rw [if_neg z]
    have p4 := (p3.2.2.2 z)
    have hpos : 1 ≤ (I 85 (9 * (f + 1) + 4)).toInt := by
      have q0 := hp.1.1
      have : ¬ (I 85 (9 * (f + 1) + 4)).toInt = 0 := fun q => z (Int32.toInt_inj.mp q)
      omega
    exact ⟨fun q => by simp only [Int32.lt_iff_toInt_lt, Int32.le_iff_toInt_le, Int32.toInt_add, Int32.toInt_sub, Int32.toInt_mul, Int.bmod_def, i3_m1, i3_0, i3_1, i3_2, i3_3, i3_4, i3_5, i3_6, i3_7, i3_8, i3_9, i3_10, i3_15, i3_16, i3_19, i3_20, i3_24, i3_31, i3_33, i3_44, i3_45, i3_48, i3_49, i3_59, i3_63, i3_64, i3_80, i3_100, i3_192, i3_200000, i3_254, i3_255, i3_256, i3_800, i3_16777215, i3_16777216] at q; omega, fun _ => rfl, fun q => by simp only [Int32.lt_iff_toInt_lt, Int32.le_iff_toInt_le, Int32.toInt_add, Int32.toInt_sub, Int32.toInt_mul, Int.bmod_def, i3_m1, i3_0, i3_1, i3_2, i3_3, i3_4, i3_5, i3_6, i3_7, i3_8, i3_9, i3_10, i3_15, i3_16, i3_19, i3_20, i3_24, i3_31, i3_33, i3_44, i3_45, i3_48, i3_49, i3_59, i3_63, i3_64, i3_80, i3_100, i3_192, i3_200000, i3_254, i3_255, i3_256, i3_800, i3_16777215, i3_16777216] at q; omega, fun _ => p4.1, p4.2, p3.2.1⟩
theorem fr_nm {c : rl_M} {hs cs ps : rl_A} {m : Int32} (hR : rb_R c m hs cs ps) (hF : rb_F c hs cs ps f) :
    (hs (9 * (f + 1) + 4) ≤ 0 → rb_n hs f = 1 <<< (hs 4 &&& 31)) ∧ (¬ hs (9 * (f + 1) + 4) ≤ 0 → rb_n hs f = 1 <<< (hs (9 * (f + 1) + 4) &&& 31)) ∧ 2 ≤ (rb_n hs f).toInt ∧ (rb_n hs f).toInt ≤ 16 := by
  have h9 := hR.2.2.2.2.2.2.2.2.1
  have h8 := hR.2.2.2.2.2.2.2.1
  have s3 := cnt_b h9.1
  rw [show 9 * 0 + 4 = 4 from rfl] at s3
  have z4 : ¬ hs 4 = 0 := fun z => by rw [z] at h8; exact absurd h8 (by decide)
  have hp := hF.2.2.2.2.2.2.2.2.2.2.1
  have p3 := cnt_b hp.1
  unfold rb_n
  by_cases z : hs (9 * (f + 1) + 4) = 0
  · rw [if_pos z, z]
    exact ⟨fun _ => (s3.2.2.2 z4).1, fun q => absurd (by decide) q, (s3.2.2.2 z4).2, s3.2.1⟩
  · rw [if_neg z]
    have p4 := (p3.2.2.2 z)
    have hpos : 1 ≤ (hs (9 * (f + 1) + 4)).toInt := by
      have q0 := hp.1.1
      have : ¬ (hs (9 * (f + 1) + 4)).toInt = 0 := fun q => z (Int32.toInt_inj.mp q)
      omega
    exact ⟨fun q => by simp only [Int32.lt_iff_toInt_lt, Int32.le_iff_toInt_le, Int32.toInt_add, Int32.toInt_sub, Int32.toInt_mul, Int.bmod_def, i3_m1, i3_0, i3_1, i3_2, i3_3, i3_4, i3_5, i3_6, i3_7, i3_8, i3_9, i3_10, i3_15, i3_16, i3_19, i3_20, i3_24, i3_31, i3_33, i3_44, i3_45, i3_48, i3_49, i3_59, i3_63, i3_64, i3_80, i3_100, i3_192, i3_200000, i3_254, i3_255, i3_256, i3_800, i3_16777215, i3_16777216] at q; omega, fun _ => p4.1, p4.2, p3.2.1⟩
/-- pixel -/
def nu_in (hs : rl_A) (x1 v : Int32) : Prop := 0 ≤ v.toInt ∧ v.toInt < (rb_n hs x1.toNatClampNeg).toInt
theorem cw_pixel (hr : is_R r) (hR : rb_R (rl_v r I) (I 84 1) (I 85) (I 86) (I 87)) (h1 : px_in (I 84 1) (I 85) x1 x y → nu_in (I 85) x1 v → Q (.inl (some (.int 0))) (mc_up I (r + (4 + 4 * x1.toNatClampNeg + 1)) (8 * y.toNatClampNeg + x.toNatClampNeg) v, J, rf_w r, sh_w N, n)) (h2 : ¬ px_in (I 84 1) (I 85) x1 x y → Q (.inl (some (.int 1))) (I, J, rf_w r, sh_w N, 0)) (h3 : px_in (I 84 1) (I 85) x1 x y → ¬ nu_in (I 85) x1 v → Q (.inl (some (.int 2))) (I, J, rf_w r, sh_w N, 0)) :
    mc_WP (mc_en 32 [.ref 10, .int x1, .int x, .int y, .int v] (I, J, rf_w r, sh_w N, n)) Q := by
  refine bk_32_0 (mc_inl ?_)
  refine bk_4_0 (mc_inl ?_)
  refine cc_rpix hr hR (fun c => ?_) (fun c => h2 c)
  obtain ⟨b1, b2, b3⟩ := px_b hR c
  obtain ⟨g1, g2, g3, g4⟩ := fr_f hR c.1
  obtain ⟨q1, q2, -, -, q5, q6⟩ := fr_n hR g1 g3
  have e8 := ix_8 b1 b2
  replace h3 := h3 c
  replace h1 := h1 c
  unfold nu_in at h1 h3
  have ok : 0 ≤ v.toInt ∧ v.toInt < (rb_n (I 85) x1.toNatClampNeg).toInt → vp_in (y * 8 + x) 64 ∧ mc_WP (32, 9, [.ref 10, .int x1, .int x, .int y, .int v, .null], [], (mc_up I (r + 4 + 4 * x1.toNatClampNeg + 1) (y * 8 + x).toNatClampNeg v, J, rf_w r, sh_w N, n), (3, 18)) Q := fun hv => by
    refine ⟨e8.2, bk_32_9 ?_⟩
    rw [e8.1, show r + 4 + 4 * x1.toNatClampNeg + 1 = r + (4 + 4 * x1.toNatClampNeg + 1) by omega]
    exact h1 hv
  refine bk_4_7 hr ⟨g4, fun a => ?_, fun a => ?_⟩
  · rw [← q1 a]
    refine ⟨fun e => h3 ?_, fun e => ⟨fun e' => h3 ?_, fun e' => ok ?_⟩⟩
    · simp only [Int32.lt_iff_toInt_lt, Int32.le_iff_toInt_le, Int32.toInt_add, Int32.toInt_sub, Int32.toInt_mul, Int.bmod_def, i3_m1, i3_0, i3_1, i3_2, i3_3, i3_4, i3_5, i3_6, i3_7, i3_8, i3_9, i3_10, i3_15, i3_16, i3_19, i3_20, i3_24, i3_31, i3_33, i3_44, i3_45, i3_48, i3_49, i3_59, i3_63, i3_64, i3_80, i3_100, i3_192, i3_200000, i3_254, i3_255, i3_256, i3_800, i3_16777215, i3_16777216] at e; omega
    · simp only [Int32.lt_iff_toInt_lt, Int32.le_iff_toInt_le, Int32.toInt_add, Int32.toInt_sub, Int32.toInt_mul, Int.bmod_def, i3_m1, i3_0, i3_1, i3_2, i3_3, i3_4, i3_5, i3_6, i3_7, i3_8, i3_9, i3_10, i3_15, i3_16, i3_19, i3_20, i3_24, i3_31, i3_33, i3_44, i3_45, i3_48, i3_49, i3_59, i3_63, i3_64, i3_80, i3_100, i3_192, i3_200000, i3_254, i3_255, i3_256, i3_800, i3_16777215, i3_16777216] at e e'; omega
    · simp only [Int32.lt_iff_toInt_lt, Int32.le_iff_toInt_le, Int32.toInt_add, Int32.toInt_sub, Int32.toInt_mul, Int.bmod_def, i3_m1, i3_0, i3_1, i3_2, i3_3, i3_4, i3_5, i3_6, i3_7, i3_8, i3_9, i3_10, i3_15, i3_16, i3_19, i3_20, i3_24, i3_31, i3_33, i3_44, i3_45, i3_48, i3_49, i3_59, i3_63, i3_64, i3_80, i3_100, i3_192, i3_200000, i3_254, i3_255, i3_256, i3_800, i3_16777215, i3_16777216] at e e'; omega
  · have q2' := q2 a
    refine ⟨fun e => h3 ?_, fun e => ⟨fun e' => h3 ?_, fun e' => ok ?_⟩⟩
    · simp only [Int32.lt_iff_toInt_lt, Int32.le_iff_toInt_le, Int32.toInt_add, Int32.toInt_sub, Int32.toInt_mul, Int.bmod_def, i3_m1, i3_0, i3_1, i3_2, i3_3, i3_4, i3_5, i3_6, i3_7, i3_8, i3_9, i3_10, i3_15, i3_16, i3_19, i3_20, i3_24, i3_31, i3_33, i3_44, i3_45, i3_48, i3_49, i3_59, i3_63, i3_64, i3_80, i3_100, i3_192, i3_200000, i3_254, i3_255, i3_256, i3_800, i3_16777215, i3_16777216] at e; omega
    · rw [← q2'] at e'; simp only [Int32.lt_iff_toInt_lt, Int32.le_iff_toInt_le, Int32.toInt_add, Int32.toInt_sub, Int32.toInt_mul, Int.bmod_def, i3_m1, i3_0, i3_1, i3_2, i3_3, i3_4, i3_5, i3_6, i3_7, i3_8, i3_9, i3_10, i3_15, i3_16, i3_19, i3_20, i3_24, i3_31, i3_33, i3_44, i3_45, i3_48, i3_49, i3_59, i3_63, i3_64, i3_80, i3_100, i3_192, i3_200000, i3_254, i3_255, i3_256, i3_800, i3_16777215, i3_16777216] at e e'; omega
    · rw [← q2'] at e'; simp only [Int32.lt_iff_toInt_lt, Int32.le_iff_toInt_le, Int32.toInt_add, Int32.toInt_sub, Int32.toInt_mul, Int.bmod_def, i3_m1, i3_0, i3_1, i3_2, i3_3, i3_4, i3_5, i3_6, i3_7, i3_8, i3_9, i3_10, i3_15, i3_16, i3_19, i3_20, i3_24, i3_31, i3_33, i3_44, i3_45, i3_48, i3_49, i3_59, i3_63, i3_64, i3_80, i3_100, i3_192, i3_200000, i3_254, i3_255, i3_256, i3_800, i3_16777215, i3_16777216] at e e'; omega
theorem cm_pixel {c : rl_M} (hR : rb_R c (I 84 1) (I 85) (I 86) (I 87)) (h1 : px_in (I 84 1) (I 85) x1 x y → nu_in (I 85) x1 v → Q (.inl none) (mc_up (mc_up I 84 0 0) 87 (px_k x1 x y) v, J, rf_w r, sh_w N, n)) (h2 : ¬ px_in (I 84 1) (I 85) x1 x y → Q (.inl none) (mc_up I 84 0 1, J, rf_w r, sh_w N, n)) (h3 : px_in (I 84 1) (I 85) x1 x y → ¬ nu_in (I 85) x1 v → Q (.inl none) (mc_up I 84 0 2, J, rf_w r, sh_w N, n)) :
    mc_WP (mc_en 68 [.ref 84, .int x1, .int x, .int y, .int v] (I, J, rf_w r, sh_w N, n)) Q := by
  refine bk_68_0 (mc_inl ?_)
  refine cm_isPixel hR (fun c => ?_) (fun c => ?_)
  · obtain ⟨b1, b2, b3⟩ := px_b hR c
    obtain ⟨g1, g2, g3, g4⟩ := fr_f hR c.1
    obtain ⟨q3, q4, q5, q6⟩ := fr_nm hR g3
    have e9 := ix_9 (x1 := x1) (k := 4) b3 (by decide)
    rw [show (4 : Int32).toNatClampNeg = 4 from rfl] at e9
    have e64 := ix_64 b3 b1 b2
    replace h3 := h3 c
    replace h1 := h1 c
    unfold nu_in at h1 h3
    refine bk_68_7 ⟨fun _ => ⟨e9.2, ?_⟩, fun q => absurd (show ¬ (1 : Int32) = 0 by decide) q⟩
    rw [e9.1, e64.1]
    refine ⟨fun a => ⟨fun e => h3 ?_, fun e => ⟨fun e' => ⟨e64.2, h1 ?_⟩, fun e' => h3 ?_⟩⟩, fun a => ⟨fun e => h3 ?_, fun e => ⟨fun e' => ⟨e64.2, h1 ?_⟩, fun e' => h3 ?_⟩⟩⟩
    · simp only [Int32.lt_iff_toInt_lt, Int32.le_iff_toInt_le, Int32.toInt_add, Int32.toInt_sub, Int32.toInt_mul, Int.bmod_def, i3_m1, i3_0, i3_1, i3_2, i3_3, i3_4, i3_5, i3_6, i3_7, i3_8, i3_9, i3_10, i3_15, i3_16, i3_19, i3_20, i3_24, i3_31, i3_33, i3_44, i3_45, i3_48, i3_49, i3_59, i3_63, i3_64, i3_80, i3_100, i3_192, i3_200000, i3_254, i3_255, i3_256, i3_800, i3_16777215, i3_16777216] at e; omega
    · rw [← q3 a] at e'; simp only [Int32.lt_iff_toInt_lt, Int32.le_iff_toInt_le, Int32.toInt_add, Int32.toInt_sub, Int32.toInt_mul, Int.bmod_def, i3_m1, i3_0, i3_1, i3_2, i3_3, i3_4, i3_5, i3_6, i3_7, i3_8, i3_9, i3_10, i3_15, i3_16, i3_19, i3_20, i3_24, i3_31, i3_33, i3_44, i3_45, i3_48, i3_49, i3_59, i3_63, i3_64, i3_80, i3_100, i3_192, i3_200000, i3_254, i3_255, i3_256, i3_800, i3_16777215, i3_16777216] at e e'; omega
    · rw [← q3 a] at e'; simp only [Int32.lt_iff_toInt_lt, Int32.le_iff_toInt_le, Int32.toInt_add, Int32.toInt_sub, Int32.toInt_mul, Int.bmod_def, i3_m1, i3_0, i3_1, i3_2, i3_3, i3_4, i3_5, i3_6, i3_7, i3_8, i3_9, i3_10, i3_15, i3_16, i3_19, i3_20, i3_24, i3_31, i3_33, i3_44, i3_45, i3_48, i3_49, i3_59, i3_63, i3_64, i3_80, i3_100, i3_192, i3_200000, i3_254, i3_255, i3_256, i3_800, i3_16777215, i3_16777216] at e e'; omega
    · simp only [Int32.lt_iff_toInt_lt, Int32.le_iff_toInt_le, Int32.toInt_add, Int32.toInt_sub, Int32.toInt_mul, Int.bmod_def, i3_m1, i3_0, i3_1, i3_2, i3_3, i3_4, i3_5, i3_6, i3_7, i3_8, i3_9, i3_10, i3_15, i3_16, i3_19, i3_20, i3_24, i3_31, i3_33, i3_44, i3_45, i3_48, i3_49, i3_59, i3_63, i3_64, i3_80, i3_100, i3_192, i3_200000, i3_254, i3_255, i3_256, i3_800, i3_16777215, i3_16777216] at e; omega
    · rw [← q4 a] at e'; simp only [Int32.lt_iff_toInt_lt, Int32.le_iff_toInt_le, Int32.toInt_add, Int32.toInt_sub, Int32.toInt_mul, Int.bmod_def, i3_m1, i3_0, i3_1, i3_2, i3_3, i3_4, i3_5, i3_6, i3_7, i3_8, i3_9, i3_10, i3_15, i3_16, i3_19, i3_20, i3_24, i3_31, i3_33, i3_44, i3_45, i3_48, i3_49, i3_59, i3_63, i3_64, i3_80, i3_100, i3_192, i3_200000, i3_254, i3_255, i3_256, i3_800, i3_16777215, i3_16777216] at e e'; omega
    · rw [← q4 a] at e'; simp only [Int32.lt_iff_toInt_lt, Int32.le_iff_toInt_le, Int32.toInt_add, Int32.toInt_sub, Int32.toInt_mul, Int.bmod_def, i3_m1, i3_0, i3_1, i3_2, i3_3, i3_4, i3_5, i3_6, i3_7, i3_8, i3_9, i3_10, i3_15, i3_16, i3_19, i3_20, i3_24, i3_31, i3_33, i3_44, i3_45, i3_48, i3_49, i3_59, i3_63, i3_64, i3_80, i3_100, i3_192, i3_200000, i3_254, i3_255, i3_256, i3_800, i3_16777215, i3_16777216] at e e'; omega
  · exact bk_68_7 ⟨fun q => absurd rfl q, fun _ => h2 c⟩
theorem rl_I.pixel (h : rl_I r I) (hc : px_in (I 84 1) (I 85) x1 x y) (hv : nu_in (I 85) x1 v) : rl_I r (mc_up (mc_up (mc_up I (r + (4 + 4 * x1.toNatClampNeg + 1)) (8 * y.toNatClampNeg + x.toNatClampNeg) v) 84 0 0) 87 (px_k x1 x y) v) := by
  obtain ⟨hr, hR, hB, hP, hC, hK⟩ := h
  have hb := is_Rb hr
  obtain ⟨b1, b2, b3⟩ := px_b hR hc
  obtain ⟨g1, g2, g3, g4⟩ := fr_f hR hc.1
  have t1 := i3_tn x
  have t2 := i3_tn y
  have hin := hc.2
  have hfr := hc.1
  unfold fr_in at hfr
  refine ⟨hr, ?_, ?_, ?_, ?_, ?_⟩
  · rw [up_v (by omega), up_v (by omega), up_vo (by omega), up_ne (show ¬ 84 = 87 by decide), up_nk (show ¬ 1 = 0 by decide), up_ne (show ¬ 84 = r + (4 + 4 * x1.toNatClampNeg + 1) by omega), up_ne (show ¬ 85 = 87 by decide), up_ne (show ¬ 85 = 84 by decide), up_ne (show ¬ 85 = r + (4 + 4 * x1.toNatClampNeg + 1) by omega), up_ne (show ¬ 86 = 87 by decide), up_ne (show ¬ 86 = 84 by decide), up_ne (show ¬ 86 = r + (4 + 4 * x1.toNatClampNeg + 1) by omega), up_row, up_ne (show ¬ 87 = 84 by decide), up_ne (show ¬ 87 = r + (4 + 4 * x1.toNatClampNeg + 1) by omega)]
    exact hR.pixel g1 (by omega) (by omega) (by omega) hv (by omega)
  · rw [up_ne (show ¬ 54 = 87 by decide), up_ne (show ¬ 54 = 84 by decide), up_ne (show ¬ 54 = r + (4 + 4 * x1.toNatClampNeg + 1) by omega), up_ne (show ¬ 55 = 87 by decide), up_ne (show ¬ 55 = 84 by decide), up_ne (show ¬ 55 = r + (4 + 4 * x1.toNatClampNeg + 1) by omega), up_ne (show ¬ 84 = 87 by decide), up_nk (show ¬ 10 = 0 by decide), up_ne (show ¬ 84 = r + (4 + 4 * x1.toNatClampNeg + 1) by omega), up_ne (show ¬ 91 = 87 by decide), up_ne (show ¬ 91 = 84 by decide), up_ne (show ¬ 91 = r + (4 + 4 * x1.toNatClampNeg + 1) by omega)]
    exact hB
  · rw [up_ne (show ¬ 75 = 87 by decide), up_ne (show ¬ 75 = 84 by decide), up_ne (show ¬ 75 = r + (4 + 4 * x1.toNatClampNeg + 1) by omega), up_ne (show ¬ 92 = 87 by decide), up_ne (show ¬ 92 = 84 by decide), up_ne (show ¬ 92 = r + (4 + 4 * x1.toNatClampNeg + 1) by omega)]
    exact hP
  · rw [up_ne (show ¬ 12 = 87 by decide), up_ne (show ¬ 12 = 84 by decide), up_ne (show ¬ 12 = r + (4 + 4 * x1.toNatClampNeg + 1) by omega), up_ne (show ¬ 93 = 87 by decide), up_ne (show ¬ 93 = 84 by decide), up_ne (show ¬ 93 = r + (4 + 4 * x1.toNatClampNeg + 1) by omega)]
    exact hC
  · refine rb_K.up (rb_K.up (rb_K.up hK (Or.inl ?_)) (Or.inl (by decide))) (Or.inl (by decide))
    intro hp
    simp only [is_P, List.mem_cons, List.not_mem_nil, or_false] at hp
    omega
theorem lc_pixel (hI : rl_I r I) (hN : N ≤ 3074) (hx : 0 ≤ x4.toInt ∧ x4.toInt + 6 ≤ N) (hu : u.1 + 3 ≤ 601024 ∧ u.2 + 18 ≤ 7293000) (hn : lw_nx N x4 u Q) : mc_WP (42, 376, [.ref 1, .ref 10, .ref 84, .ref 105, .int x4, x5, x6], [], (I, J, rf_w r, sh_w N, n), u) Q := by
  have hI' := hI
  obtain ⟨hr, hR, hB, hP, hC, hK⟩ := hI
  have hb := is_Rb hr
  refine bk_42_376 ⟨lw_i hN hx (by decide), lw_i hN hx (by decide), lw_i hN hx (by decide), lw_i hN hx (by decide), by omega, by omega, mc_inl ?_⟩
  refine cw_pixel hr hR (fun c c' => ?_) (fun c => ?_) (fun c c' => ?_)
  · have g1 := (fr_f hR c.1).1
    have ne : ∀ a, a < 14 ∨ 54 ≤ a → ¬ a = r + (4 + 4 * (I 1 (x4 + 1).toNatClampNeg).toNatClampNeg + 1) := fun a ha => by omega
    refine bk_42_404 ⟨lw_i hN hx (by decide), lw_i hN hx (by decide), lw_i hN hx (by decide), lw_i hN hx (by decide), by show u.1 + 3 + 0 ≤ _; omega, by show u.2 + 18 + 0 ≤ _; omega, mc_inl ?_⟩
    rw [up_ne (ne 1 (by decide))]
    refine cm_pixel (c := rl_v r I) ?_ (fun _ _ => ?_) (fun q => absurd ?_ q) (fun _ q => absurd ?_ q)
    · rw [up_ne (ne 84 (by decide)), up_ne (ne 85 (by decide)), up_ne (ne 86 (by decide)), up_ne (ne 87 (by decide))]
      exact hR
    · exact le_434 (hI'.pixel c c') (by rw [up_ne (by decide), up_at]) hu (by constructor <;> show _ + _ ≤ _ <;> omega) hn
    · rw [up_ne (ne 84 (by decide)), up_ne (ne 85 (by decide))]
      exact c
    · rw [up_ne (ne 85 (by decide))]
      exact c'
  · refine bk_42_404 ⟨lw_i hN hx (by decide), lw_i hN hx (by decide), lw_i hN hx (by decide), lw_i hN hx (by decide), by show u.1 + 3 + 0 ≤ _; omega, by show u.2 + 18 + 0 ≤ _; omega, mc_inl ?_⟩
    refine cm_pixel hR (fun q => absurd q c) (fun _ => ?_) (fun q => absurd q c)
    exact le_434 hI'.thr up_at hu (by constructor <;> show _ + _ ≤ _ <;> omega) hn
  · refine bk_42_404 ⟨lw_i hN hx (by decide), lw_i hN hx (by decide), lw_i hN hx (by decide), lw_i hN hx (by decide), by show u.1 + 3 + 0 ≤ _; omega, by show u.2 + 18 + 0 ≤ _; omega, mc_inl ?_⟩
    refine cm_pixel hR (fun _ q => absurd q c') (fun q => absurd c q) (fun _ _ => ?_)
    exact le_434 hI'.thr up_at hu (by constructor <;> show _ + _ ≤ _ <;> omega) hn
end
