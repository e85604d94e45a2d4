section
variable {I : rl_M} {J : Nat → Nat → Int64} {r N n : Nat} {Q : mc_Q} {v x1 x2 x3 y4 x4 : Int32} {x5 x6 : Value} {u : mc_U} {a b lo m j k z f : Nat}
theorem am_row (h4 : ¬ b = 84) (h5 : ¬ b = 85) (h6 : ¬ b = 86) (h7 : ¬ b = 87) : am_M I x1 x2 x3 y4 b = I b := by
  unfold am_M
  rw [fl_ne h6, fl_ne h7, up_ne h5, up_ne h5, up_ne h5, up_ne h5, up_ne h5, fl_ne h5, up_ne h4]
theorem am_84 : am_M I x1 x2 x3 y4 84 = mc_up I 84 1 (I 84 1 + 1) 84 := by
  unfold am_M
  rw [fl_ne (by decide), fl_ne (by decide), up_ne (by decide), up_ne (by decide), up_ne (by decide), up_ne (by decide), up_ne (by decide), fl_ne (by decide)]
theorem am_85 (hf : (I 84 1).toNatClampNeg = f) : am_M I x1 x2 x3 y4 85 = mc_up (mc_up (mc_up (mc_up (mc_up (mc_fl I 85 (9 * (f + 1)) 9 0) 85 (9 * (f + 1)) x1) 85 (9 * (f + 1) + 1) x2) 85 (9 * (f + 1) + 2) x3) 85 (9 * (f + 1) + 3) y4) 85 (9 * (f + 1) + 7) (-1) 85 := by
  unfold am_M
  rw [hf, fl_ne (by decide), fl_ne (by decide)]
  funext k
  unfold mc_up mc_fl
  simp
theorem am_85o (hf : (I 84 1).toNatClampNeg = f) (hk : ¬ (9 * (f + 1) ≤ k ∧ k < 9 * (f + 1) + 9)) : am_M I x1 x2 x3 y4 85 k = I 85 k := by
  rw [am_85 hf, up_nk (by omega), up_nk (by omega), up_nk (by omega), up_nk (by omega), up_nk (by omega), fl_out (by omega)]
theorem am_85v (hf : (I 84 1).toNatClampNeg = f) : am_M I x1 x2 x3 y4 85 (9 * (f + 1)) = x1 ∧ am_M I x1 x2 x3 y4 85 (9 * (f + 1) + 1) = x2 ∧ am_M I x1 x2 x3 y4 85 (9 * (f + 1) + 2) = x3 ∧ am_M I x1 x2 x3 y4 85 (9 * (f + 1) + 3) = y4 ∧ am_M I x1 x2 x3 y4 85 (9 * (f + 1) + 4) = 0 ∧ am_M I x1 x2 x3 y4 85 (9 * (f + 1) + 5) = 0 ∧ am_M I x1 x2 x3 y4 85 (9 * (f + 1) + 6) = 0 ∧ am_M I x1 x2 x3 y4 85 (9 * (f + 1) + 7) = -1 ∧ am_M I x1 x2 x3 y4 85 (9 * (f + 1) + 8) = 0 := by
  rw [am_85 hf]
  refine ⟨?_, ?_, ?_, ?_, ?_, ?_, ?_, ?_, ?_⟩
  · rw [up_nk (by omega), up_nk (by omega), up_nk (by omega), up_nk (by omega), up_at]
  · rw [up_nk (by omega), up_nk (by omega), up_nk (by omega), up_at]
  · rw [up_nk (by omega), up_nk (by omega), up_at]
  · rw [up_nk (by omega), up_at]
  · rw [up_nk (by omega), up_nk (by omega), up_nk (by omega), up_nk (by omega), up_nk (by omega), fl_in (by omega)]
  · rw [up_nk (by omega), up_nk (by omega), up_nk (by omega), up_nk (by omega), up_nk (by omega), fl_in (by omega)]
  · rw [up_nk (by omega), up_nk (by omega), up_nk (by omega), up_nk (by omega), up_nk (by omega), fl_in (by omega)]
  · rw [up_at]
  · rw [up_nk (by omega), up_nk (by omega), up_nk (by omega), up_nk (by omega), up_nk (by omega), fl_in (by omega)]
theorem am_86 (hf : (I 84 1).toNatClampNeg = f) : (∀ k, k < 16 → am_M I x1 x2 x3 y4 86 (16 * (f + 1) + k) = 0) ∧ ∀ k, ¬ (16 * (f + 1) ≤ k ∧ k < 16 * (f + 1) + 16) → am_M I x1 x2 x3 y4 86 k = I 86 k := by
  unfold am_M
  rw [hf]
  refine ⟨fun k hk => fl_in (by omega), fun k hk => ?_⟩
  rw [fl_out hk, fl_ne (by decide), up_ne (by decide), up_ne (by decide), up_ne (by decide), up_ne (by decide), up_ne (by decide), fl_ne (by decide), up_ne (by decide)]
theorem am_87 (hf : (I 84 1).toNatClampNeg = f) : (∀ k, k < 64 → am_M I x1 x2 x3 y4 87 (64 * f + k) = 0) ∧ ∀ k, ¬ (64 * f ≤ k ∧ k < 64 * f + 64) → am_M I x1 x2 x3 y4 87 k = I 87 k := by
  unfold am_M
  rw [hf]
  refine ⟨fun k hk => ?_, fun k hk => ?_⟩
  · rw [fl_ne (by decide), fl_in (by omega)]
  · rw [fl_ne (by decide), fl_out hk, up_ne (by decide), up_ne (by decide), up_ne (by decide), up_ne (by decide), up_ne (by decide), fl_ne (by decide), up_ne (by decide)]
/-- the class's reel behind add -/
theorem ad_row (h : ¬ b = a) (h1 : ¬ (a + 4 + 4 * (I a 4).toNatClampNeg ≤ b ∧ b ≤ a + 4 + 4 * (I a 4).toNatClampNeg + 3)) : ad_M I a x1 x2 x3 y4 b = I b := by
  unfold ad_M
  rw [up_ne h, fb_ne (by omega) (by omega) (by omega) (by omega)]
theorem rl_I.add (h : rl_I r I) (hc : (I 84 1).toInt < 4) (hx1 : 0 ≤ x1.toInt ∧ x1.toInt ≤ 7) (hx2 : 0 ≤ x2.toInt ∧ x2.toInt ≤ 7) (hx3 : 1 ≤ x3.toInt ∧ x3.toInt ≤ 8) (hx4 : 1 ≤ y4.toInt ∧ y4.toInt ≤ 8) : rl_I r (am_M (mc_up (ad_M I r x1 x2 x3 y4) 84 0 0) x1 x2 x3 y4) := by
  obtain ⟨hr, hR, hB, hP, hC, hK⟩ := h
  have hb := is_Rb hr
  have h0 := hR.1
  have e4 : I r 4 = I 84 1 := by have := hR.2.1; rw [rl_v0 _ _ _ _ (by decide)] at this; exact this
  have ht := i3_tn (I 84 1)
  obtain ⟨f, hf⟩ : ∃ f, (I 84 1).toNatClampNeg = f := ⟨_, rfl⟩
  have hf4 : f < 4 := by omega
  have row : ∀ b, (b < 14 ∨ 54 ≤ b) → ad_M I r x1 x2 x3 y4 b = I b := fun b hb' => ad_row (by omega) (by rw [e4, hf]; omega)
  have hcnt : (mc_up (ad_M I r x1 x2 x3 y4) 84 0 0 84 1).toNatClampNeg = f := by rw [up_nk (by decide), row 84 (by decide)]; exact hf
  have row2 : ∀ b, ¬ b = 84 → ¬ b = 85 → ¬ b = 86 → ¬ b = 87 → am_M (mc_up (ad_M I r x1 x2 x3 y4) 84 0 0) x1 x2 x3 y4 b = ad_M I r x1 x2 x3 y4 b := fun b q4 q5 q6 q7 => by rw [am_row q4 q5 q6 q7, up_ne q4]
  have c84 : am_M (mc_up (ad_M I r x1 x2 x3 y4) 84 0 0) x1 x2 x3 y4 84 1 = I 84 1 + 1 := by rw [am_84, up_at, up_nk (by decide), row 84 (by decide)]
  have cls : ∀ o k, o < 20 → rl_v r (am_M (mc_up (ad_M I r x1 x2 x3 y4) 84 0 0) x1 x2 x3 y4) o k = ad_M I r x1 x2 x3 y4 (r + o) k := fun o k ho => by rw [rl_v0 _ _ _ _ ho, row2 _ (by omega) (by omega) (by omega) (by omega)]
  have fbe : ∀ o, o < 20 → ¬ o = 0 → ad_M I r x1 x2 x3 y4 (r + o) = fb_M I (r + 4 + 4 * f) x1 x2 x3 y4 (r + o) := fun o ho h0 => by
    unfold ad_M
    rw [up_ne (by omega), e4, hf]
  have n0 : ∀ k, ad_M I r x1 x2 x3 y4 (r + 0) k = if k = 4 then I 84 1 + 1 else I r k := fun k => by
    show ad_M I r x1 x2 x3 y4 r k = _
    unfold ad_M
    by_cases hk : k = 4
    · subst hk; rw [up_at, if_pos rfl, e4]
    · rw [up_nk hk, if_neg hk, fb_ne (by rw [e4, hf]; omega) (by rw [e4, hf]; omega) (by rw [e4, hf]; omega) (by rw [e4, hf]; omega)]
  refine ⟨hr, ?_, ?_, ?_, ?_, ?_⟩
  · rw [c84]
    refine hR.add (f := f) (by omega) hf4 ?_ ?_ (fun k hk => ?_) (fun k hk => ?_) (fun k hk => ?_) ?_
    · rw [cls _ _ (by decide), n0, if_pos rfl]
    · intro o k h1 h2
      by_cases ho : o < 20
      · rw [cls _ _ ho, rl_v0 _ _ _ _ ho]
        by_cases h0 : o = 0
        · subst h0; rw [n0, if_neg (by omega)]; rfl
        · rw [fbe o ho h0, fb_ne (by omega) (by omega) (by omega) (by omega)]
      · unfold rl_v; rw [if_neg ho, if_neg ho]
    · rw [am_85o hcnt hk, up_ne (by decide), row 85 (by decide)]
    · rw [(am_86 hcnt).2 k hk, up_ne (by decide), row 86 (by decide)]
    · rw [(am_87 hcnt).2 k hk, up_ne (by decide), row 87 (by decide)]
    · have fa : ∀ k, rl_v r (am_M (mc_up (ad_M I r x1 x2 x3 y4) 84 0 0) x1 x2 x3 y4) (4 + 4 * f) k = fb_8 I (r + 4 + 4 * f) x1 x2 x3 y4 (r + 4 + 4 * f) k := fun k => by
        rw [cls _ _ (by omega), fbe _ (by omega) (by omega), show r + (4 + 4 * f) = r + 4 + 4 * f by omega, fb_a]
      refine rb_F.fresh (f := f) hR (hs' := am_M (mc_up (ad_M I r x1 x2 x3 y4) 84 0 0) x1 x2 x3 y4 85) ?_ hx1 hx2 hx3 hx4 ?_ (fun k hk => ?_) ?_ (fun k hk => ?_) (am_85v hcnt) (am_86 hcnt).1 (am_87 hcnt).1
      · rw [am_85o hcnt (by omega), up_ne (by decide), row 85 (by decide)]
      · simp only [fa]; exact fb_v
      · rw [cls _ _ (by omega), fbe _ (by omega) (by omega), show r + (4 + 4 * f + 1) = r + 4 + 4 * f + 1 by omega]; exact fb_1 hk
      · rw [cls _ _ (by omega), fbe _ (by omega) (by omega), show r + (4 + 4 * f + 2) = r + 4 + 4 * f + 2 by omega]; exact fb_2
      · rw [cls _ _ (by omega), fbe _ (by omega) (by omega), show r + (4 + 4 * f + 2 + 1) = r + 4 + 4 * f + 2 + 1 by omega]; exact fb_3 hk
  · rw [row2 54 (by decide) (by decide) (by decide) (by decide), row2 55 (by decide) (by decide) (by decide) (by decide), row2 91 (by decide) (by decide) (by decide) (by decide), row 54 (by decide), row 55 (by decide), row 91 (by decide), am_84, up_nk (by decide), up_nk (by decide), row 84 (by decide)]
    exact hB
  · rw [row2 75 (by decide) (by decide) (by decide) (by decide), row2 92 (by decide) (by decide) (by decide) (by decide), row 75 (by decide), row 92 (by decide)]; exact hP
  · rw [row2 12 (by decide) (by decide) (by decide) (by decide), row2 93 (by decide) (by decide) (by decide) (by decide), row 12 (by decide), row 93 (by decide)]; exact hC
  · refine ⟨fun p hp => ?_, fun a h1 h2 => by rw [row2 a (by omega) (by omega) (by omega) (by omega), row a (by omega)]; exact hK.2.1 a h1 h2, fun k h1 => by rw [row2 88 (by decide) (by decide) (by decide) (by decide), row 88 (by decide)]; exact hK.2.2 k h1⟩
    have hpn : p < 84 := by simp only [is_P, List.mem_cons, List.not_mem_nil, or_false] at hp; omega
    rw [row2 p (by omega) (by omega) (by omega) (by omega)]
    unfold ad_M
    rw [up_nk (by decide)]
    exact (hK.begin (is_Ff hr (by rw [e4, hf]; exact hf4))).1 p hp
/-- frame -/
def ft_in (x1 x2 x3 y4 : Int32) : Prop := (0 ≤ x1.toInt ∧ x1.toInt ≤ 7) ∧ (0 ≤ x2.toInt ∧ x2.toInt ≤ 7) ∧ (1 ≤ x3.toInt ∧ x3.toInt ≤ 8) ∧ 1 ≤ y4.toInt ∧ y4.toInt ≤ 8
theorem cw_frame (hr : is_R r) (hR : rb_R (rl_v r I) (I 84 1) (I 85) (I 86) (I 87)) (hK : rb_K I) (h1 : ft_in x1 x2 x3 y4 → (I 84 1).toInt < 4 → Q (.inl (some (.int 0))) (ad_M I r x1 x2 x3 y4, mc_up J 105 0 (I 84 1).toInt64, rf_w r, sh_w N, n)) (h2 : ¬ ft_in x1 x2 x3 y4 → Q (.inl (some (.int 1))) (I, J, rf_w r, sh_w N, 0)) (h3 : ft_in x1 x2 x3 y4 → ¬ (I 84 1).toInt < 4 → Q (.inl (some (.int 2))) (I, J, rf_w r, sh_w N, 0)) :
    mc_WP (mc_en 31 [.ref 10, .int x1, .int x2, .int x3, .int y4, .ref 105] (I, J, rf_w r, sh_w N, n)) Q := by
  have e4 : I r 4 = I 84 1 := by have := hR.2.1; rw [rl_v0 _ _ _ _ (by decide)] at this; exact this
  have h0 := hR.1
  have ht := i3_tn (I 84 1)
  unfold ft_in at h1 h2 h3
  refine bk_31_0 (a5z := 1) rfl (mc_inl ?_)
  refine bk_3_0 hr ⟨fun c => h2 ?_, fun c => ⟨fun d => h2 ?_, fun d => ⟨fun e => h2 ?_, fun e => ⟨fun g => h2 ?_, fun g => ⟨fun c' => h2 ?_, fun c' => ⟨fun d' => h2 ?_, fun d' => ⟨fun e' => h2 ?_, fun e' => ⟨fun g' => h2 ?_, fun g' => ⟨fun w => mc_inl ?_, fun w => h3 ?_ ?_⟩⟩⟩⟩⟩⟩⟩⟩⟩
  · simp only [Int32.lt_iff_toInt_lt, Int32.le_iff_toInt_le, Int32.toInt_add, Int32.toInt_sub, Int32.toInt_mul, Int.bmod_def, i3_m1, i3_0, i3_1, i3_2, i3_3, i3_4, i3_5, i3_6, i3_7, i3_8, i3_9, i3_10, i3_15, i3_16, i3_19, i3_20, i3_24, i3_31, i3_33, i3_44, i3_45, i3_48, i3_49, i3_59, i3_63, i3_64, i3_80, i3_100, i3_192, i3_200000, i3_254, i3_255, i3_256, i3_800, i3_16777215, i3_16777216] at c; omega
  · simp only [Int32.lt_iff_toInt_lt, Int32.le_iff_toInt_le, Int32.toInt_add, Int32.toInt_sub, Int32.toInt_mul, Int.bmod_def, i3_m1, i3_0, i3_1, i3_2, i3_3, i3_4, i3_5, i3_6, i3_7, i3_8, i3_9, i3_10, i3_15, i3_16, i3_19, i3_20, i3_24, i3_31, i3_33, i3_44, i3_45, i3_48, i3_49, i3_59, i3_63, i3_64, i3_80, i3_100, i3_192, i3_200000, i3_254, i3_255, i3_256, i3_800, i3_16777215, i3_16777216] at d; omega
  · simp only [Int32.lt_iff_toInt_lt, Int32.le_iff_toInt_le, Int32.toInt_add, Int32.toInt_sub, Int32.toInt_mul, Int.bmod_def, i3_m1, i3_0, i3_1, i3_2, i3_3, i3_4, i3_5, i3_6, i3_7, i3_8, i3_9, i3_10, i3_15, i3_16, i3_19, i3_20, i3_24, i3_31, i3_33, i3_44, i3_45, i3_48, i3_49, i3_59, i3_63, i3_64, i3_80, i3_100, i3_192, i3_200000, i3_254, i3_255, i3_256, i3_800, i3_16777215, i3_16777216] at e; omega
  · simp only [Int32.lt_iff_toInt_lt, Int32.le_iff_toInt_le, Int32.toInt_add, Int32.toInt_sub, Int32.toInt_mul, Int.bmod_def, i3_m1, i3_0, i3_1, i3_2, i3_3, i3_4, i3_5, i3_6, i3_7, i3_8, i3_9, i3_10, i3_15, i3_16, i3_19, i3_20, i3_24, i3_31, i3_33, i3_44, i3_45, i3_48, i3_49, i3_59, i3_63, i3_64, i3_80, i3_100, i3_192, i3_200000, i3_254, i3_255, i3_256, i3_800, i3_16777215, i3_16777216] at g; omega
  · simp only [Int32.lt_iff_toInt_lt, Int32.le_iff_toInt_le, Int32.toInt_add, Int32.toInt_sub, Int32.toInt_mul, Int.bmod_def, i3_m1, i3_0, i3_1, i3_2, i3_3, i3_4, i3_5, i3_6, i3_7, i3_8, i3_9, i3_10, i3_15, i3_16, i3_19, i3_20, i3_24, i3_31, i3_33, i3_44, i3_45, i3_48, i3_49, i3_59, i3_63, i3_64, i3_80, i3_100, i3_192, i3_200000, i3_254, i3_255, i3_256, i3_800, i3_16777215, i3_16777216] at c'; omega
  · simp only [Int32.lt_iff_toInt_lt, Int32.le_iff_toInt_le, Int32.toInt_add, Int32.toInt_sub, Int32.toInt_mul, Int.bmod_def, i3_m1, i3_0, i3_1, i3_2, i3_3, i3_4, i3_5, i3_6, i3_7, i3_8, i3_9, i3_10, i3_15, i3_16, i3_19, i3_20, i3_24, i3_31, i3_33, i3_44, i3_45, i3_48, i3_49, i3_59, i3_63, i3_64, i3_80, i3_100, i3_192, i3_200000, i3_254, i3_255, i3_256, i3_800, i3_16777215, i3_16777216] at d'; omega
  · simp only [Int32.lt_iff_toInt_lt, Int32.le_iff_toInt_le, Int32.toInt_add, Int32.toInt_sub, Int32.toInt_mul, Int.bmod_def, i3_m1, i3_0, i3_1, i3_2, i3_3, i3_4, i3_5, i3_6, i3_7, i3_8, i3_9, i3_10, i3_15, i3_16, i3_19, i3_20, i3_24, i3_31, i3_33, i3_44, i3_45, i3_48, i3_49, i3_59, i3_63, i3_64, i3_80, i3_100, i3_192, i3_200000, i3_254, i3_255, i3_256, i3_800, i3_16777215, i3_16777216] at e'; omega
  · simp only [Int32.lt_iff_toInt_lt, Int32.le_iff_toInt_le, Int32.toInt_add, Int32.toInt_sub, Int32.toInt_mul, Int.bmod_def, i3_m1, i3_0, i3_1, i3_2, i3_3, i3_4, i3_5, i3_6, i3_7, i3_8, i3_9, i3_10, i3_15, i3_16, i3_19, i3_20, i3_24, i3_31, i3_33, i3_44, i3_45, i3_48, i3_49, i3_59, i3_63, i3_64, i3_80, i3_100, i3_192, i3_200000, i3_254, i3_255, i3_256, i3_800, i3_16777215, i3_16777216] at g'; omega
  · rw [e4] at w
    have w' : (I 84 1).toInt < 4 := by simp only [Int32.lt_iff_toInt_lt, Int32.le_iff_toInt_le, Int32.toInt_add, Int32.toInt_sub, Int32.toInt_mul, Int.bmod_def, i3_m1, i3_0, i3_1, i3_2, i3_3, i3_4, i3_5, i3_6, i3_7, i3_8, i3_9, i3_10, i3_15, i3_16, i3_19, i3_20, i3_24, i3_31, i3_33, i3_44, i3_45, i3_48, i3_49, i3_59, i3_63, i3_64, i3_80, i3_100, i3_192, i3_200000, i3_254, i3_255, i3_256, i3_800, i3_16777215, i3_16777216] at w; omega
    refine cc_add hr (by rw [e4]; omega) hK ?_
    refine bk_3_67 hr (is_Ff hr (by rw [e4]; omega)) ?_
    have ea : ad_M I r x1 x2 x3 y4 r 4 = I r 4 + 1 := by unfold ad_M; exact up_at
    have es : I 84 1 + 1 - 1 = I 84 1 := by rw [← Int32.toInt_inj]; simp only [Int32.lt_iff_toInt_lt, Int32.le_iff_toInt_le, Int32.toInt_add, Int32.toInt_sub, Int32.toInt_mul, Int.bmod_def, i3_m1, i3_0, i3_1, i3_2, i3_3, i3_4, i3_5, i3_6, i3_7, i3_8, i3_9, i3_10, i3_15, i3_16, i3_19, i3_20, i3_24, i3_31, i3_33, i3_44, i3_45, i3_48, i3_49, i3_59, i3_63, i3_64, i3_80, i3_100, i3_192, i3_200000, i3_254, i3_255, i3_256, i3_800, i3_16777215, i3_16777216]; omega
    rw [ea, e4, es]
    exact bk_31_12 (a5z := 1) (b0z := 1) rfl rfl (by decide) ⟨by unfold vp_in; decide, h1 (by simp only [Int32.lt_iff_toInt_lt, Int32.le_iff_toInt_le, Int32.toInt_add, Int32.toInt_sub, Int32.toInt_mul, Int.bmod_def, i3_m1, i3_0, i3_1, i3_2, i3_3, i3_4, i3_5, i3_6, i3_7, i3_8, i3_9, i3_10, i3_15, i3_16, i3_19, i3_20, i3_24, i3_31, i3_33, i3_44, i3_45, i3_48, i3_49, i3_59, i3_63, i3_64, i3_80, i3_100, i3_192, i3_200000, i3_254, i3_255, i3_256, i3_800, i3_16777215, i3_16777216] at c d e g c' d' e' g'; omega) w'⟩
  · simp only [Int32.lt_iff_toInt_lt, Int32.le_iff_toInt_le, Int32.toInt_add, Int32.toInt_sub, Int32.toInt_mul, Int.bmod_def, i3_m1, i3_0, i3_1, i3_2, i3_3, i3_4, i3_5, i3_6, i3_7, i3_8, i3_9, i3_10, i3_15, i3_16, i3_19, i3_20, i3_24, i3_31, i3_33, i3_44, i3_45, i3_48, i3_49, i3_59, i3_63, i3_64, i3_80, i3_100, i3_192, i3_200000, i3_254, i3_255, i3_256, i3_800, i3_16777215, i3_16777216] at c d e g c' d' e' g'; omega
  · rw [e4] at w; simp only [Int32.lt_iff_toInt_lt, Int32.le_iff_toInt_le, Int32.toInt_add, Int32.toInt_sub, Int32.toInt_mul, Int.bmod_def, i3_m1, i3_0, i3_1, i3_2, i3_3, i3_4, i3_5, i3_6, i3_7, i3_8, i3_9, i3_10, i3_15, i3_16, i3_19, i3_20, i3_24, i3_31, i3_33, i3_44, i3_45, i3_48, i3_49, i3_59, i3_63, i3_64, i3_80, i3_100, i3_192, i3_200000, i3_254, i3_255, i3_256, i3_800, i3_16777215, i3_16777216] at w; omega
theorem cm_frame {c : rl_M} (hR : rb_R c (I 84 1) (I 85) (I 86) (I 87)) (h1 : ft_in x1 x2 x3 y4 → (I 84 1).toInt < 4 → Q (.inl (some (.int (I 84 1)))) (am_M (mc_up I 84 0 0) x1 x2 x3 y4, J, rf_w r, sh_w N, n)) (h2 : ¬ ft_in x1 x2 x3 y4 → Q (.inl (some (.int 0))) (mc_up I 84 0 1, J, rf_w r, sh_w N, n)) (h3 : ft_in x1 x2 x3 y4 → ¬ (I 84 1).toInt < 4 → Q (.inl (some (.int 0))) (mc_up I 84 0 2, J, rf_w r, sh_w N, n)) :
    mc_WP (mc_en 66 [.ref 84, .int x1, .int x2, .int x3, .int y4] (I, J, rf_w r, sh_w N, n)) Q := by
  have h0 := hR.1
  unfold ft_in at h1 h2 h3
  refine bk_66_0 (mc_inl ?_)
  refine cm_outside (fun a => ?_) (fun a => bk_66_7 ⟨fun _ => bk_66_94 (h2 (fun q => a q.1)), fun q => absurd (show ¬ (1 : Int32) = 0 by decide) q⟩)
  refine bk_66_7 ⟨fun q => absurd rfl q, fun _ => mc_inl ?_⟩
  refine cm_outside (fun b => ?_) (fun b => bk_66_17 ⟨fun _ => bk_66_94 (h2 (fun q => b q.2.1)), fun q => absurd (show ¬ (1 : Int32) = 0 by decide) q⟩)
  refine bk_66_17 ⟨fun q => absurd rfl q, fun _ => mc_inl ?_⟩
  refine cm_outside (fun d => ?_) (fun d => bk_66_27 ⟨fun _ => bk_66_94 (h2 (fun q => d q.2.2.1)), fun q => absurd (show ¬ (1 : Int32) = 0 by decide) q⟩)
  refine bk_66_27 ⟨fun q => absurd rfl q, fun _ => mc_inl ?_⟩
  refine cm_outside (fun e => ?_) (fun e => bk_66_38 ⟨fun q => absurd q (by decide), fun _ => bk_66_94 (h2 (fun q => e q.2.2.2))⟩)
  refine bk_66_38 ⟨fun _ => ⟨fun g => mc_inl ?_, fun g => bk_66_94 (h3 ⟨a, b, d, e⟩ ?_)⟩, fun q => absurd rfl q⟩
  · have g' : (I 84 1).toInt < 4 := by
      have : ¬ (I 84 1).toInt = 4 := fun q => g (Int32.toInt_inj.mp q)
      omega
    refine cm_add (by rw [up_nk (by decide)]; omega) ?_
    rw [up_nk (by decide)]
    exact bk_66_94 (h1 ⟨a, b, d, e⟩ g')
  · have := Classical.not_not.mp g
    rw [this]
    decide
theorem lc_frame (hI : rl_I r I) (hN : N ≤ 3074) (hx : 0 ≤ x4.toInt ∧ x4.toInt + 6 ≤ N) (hu : u.1 + 3 ≤ 601024 ∧ u.2 + 18 ≤ 7293000) (hn : lw_nx N x4 u Q) : mc_WP (42, 284, [.ref 1, .ref 10, .ref 84, .ref 105, .int x4, x5, x6], [], (I, J, rf_w r, sh_w N, n), u) Q := by
  have hI' := hI
  obtain ⟨hr, hR, hB, hP, hC, hK⟩ := hI
  have hb := is_Rb hr
  have h0 := hR.1
  have e4 : I r 4 = I 84 1 := by have := hR.2.1; rw [rl_v0 _ _ _ _ (by decide)] at this; exact this
  have ht := i3_tn (I 84 1)
  refine bk_42_284 ⟨lw_i hN hx (by decide), lw_i hN hx (by decide), lw_i hN hx (by decide), lw_i hN hx (by decide), by omega, by omega, mc_inl ?_⟩
  refine cw_frame hr hR hK (fun c c' => ?_) (fun c => ?_) (fun c c' => ?_)
  · have row : ∀ b, (b < 14 ∨ 54 ≤ b) → ad_M I r (I 1 (x4 + 1).toNatClampNeg) (I 1 (x4 + 2).toNatClampNeg) (I 1 (x4 + 3).toNatClampNeg) (I 1 (x4 + 4).toNatClampNeg) b = I b := fun b hb' => ad_row (by omega) (by rw [e4]; omega)
    refine bk_42_313 ⟨lw_i hN hx (by decide), lw_i hN hx (by decide), lw_i hN hx (by decide), lw_i hN hx (by decide), by show u.1 + 2 + 0 ≤ _; omega, by show u.2 + 12 + 0 ≤ _; omega, mc_inl ?_⟩
    rw [row 1 (by decide)]
    refine cm_frame (c := rl_v r I) ?_ (fun _ _ => ?_) (fun q => absurd c q) (fun _ q => absurd ?_ q)
    · rw [row 84 (by decide), row 85 (by decide), row 86 (by decide), row 87 (by decide)]; exact hR
    · rw [row 84 (by decide)]
      refine le_343 (hI'.add c' c.1 c.2.1 c.2.2.1 c.2.2.2) ?_ (fun _ => if_pos ⟨rfl, rfl⟩) hu (by constructor <;> show _ + _ ≤ _ <;> omega) hn
      rw [am_84, up_nk (by decide), up_at]
    · rw [row 84 (by decide)]; exact c'
  · refine bk_42_313 ⟨lw_i hN hx (by decide), lw_i hN hx (by decide), lw_i hN hx (by decide), lw_i hN hx (by decide), by show u.1 + 2 + 0 ≤ _; omega, by show u.2 + 12 + 0 ≤ _; omega, mc_inl ?_⟩
    refine cm_frame hR (fun q => absurd q c) (fun _ => ?_) (fun q => absurd q c)
    exact le_343 hI'.thr up_at (fun q => absurd q (by decide)) hu (by constructor <;> show _ + _ ≤ _ <;> omega) hn
  · refine bk_42_313 ⟨lw_i hN hx (by decide), lw_i hN hx (by decide), lw_i hN hx (by decide), lw_i hN hx (by decide), by show u.1 + 2 + 0 ≤ _; omega, by show u.2 + 12 + 0 ≤ _; omega, mc_inl ?_⟩
    refine cm_frame hR (fun _ q => absurd q c') (fun q => absurd c q) (fun _ _ => ?_)
    exact le_343 hI'.thr up_at (fun q => absurd q (by decide)) hu (by constructor <;> show _ + _ ≤ _ <;> omega) hn
end
