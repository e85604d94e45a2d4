section
variable {I : rl_M} {J : Nat → Nat → Int64} {r N n : Nat} {Q : mc_Q} {v x1 x2 x3 x4 : Int32} {x5 x6 : Value} {u : mc_U} {a b lo m j k z f : Nat}
variable {c c' : rl_M} {hs hs' cs cs' ps ps' : rl_A} {t : Int32}
/-- one more frame -/
theorem rb_R.add (hR : rb_R c t hs cs ps) (hf : t.toInt = f) (h4 : f < 4)
    (e0 : c' 0 4 = t + 1) (ec : ∀ o k, ¬ (o = 0 ∧ k = 4) → ¬ (4 + 4 * f ≤ o ∧ o ≤ 4 + 4 * f + 3) → c' o k = c o k) (eh : ∀ k, ¬ (9 * (f + 1) ≤ k ∧ k < 9 * (f + 1) + 9) → hs' k = hs k) (es : ∀ k, ¬ (16 * (f + 1) ≤ k ∧ k < 16 * (f + 1) + 16) → cs' k = cs k) (ep : ∀ k, ¬ (64 * f ≤ k ∧ k < 64 * f + 64) → ps' k = ps k)
    (hF : rb_F c' hs' cs' ps' f) : rb_R c' (t + 1) hs' cs' ps' := by
  obtain ⟨g1, g2, g3, g4, g5, g6, g7, g8, g9, g10⟩ := hR
  have hk : ∀ k, k < 9 → hs' k = hs k := fun k hk => eh k (by omega)
  have t1 : (t + 1).toInt = f + 1 := by simp only [Int32.lt_iff_toInt_lt, Int32.le_iff_toInt_le, Int32.toInt_add, Int32.toInt_sub, Int32.toInt_mul, Int.bmod_def, i3_m1, i3_0, i3_1, i3_2, i3_3, i3_4, i3_5, i3_6, i3_7, i3_8, i3_9, i3_10, i3_15, i3_16, i3_19, i3_20, i3_24, i3_31, i3_33, i3_44, i3_45, i3_48, i3_49, i3_59, i3_63, i3_64, i3_80, i3_100, i3_192, i3_200000, i3_254, i3_255, i3_256, i3_800, i3_16777215, i3_16777216]; omega
  refine ⟨by omega, e0, by rw [ec _ _ (by omega) (by omega), hk 2 (by decide)]; exact g3, by rw [ec _ _ (by omega) (by omega), hk 3 (by decide)]; exact g4, by rw [hk 2 (by decide)]; exact g5, by rw [hk 3 (by decide)]; exact g6,
    by rw [hk 0 (by decide), hk 1 (by decide), hk 5 (by decide), hk 6 (by decide), hk 7 (by decide), hk 8 (by decide)]; exact g7, by rw [hk 4 (by decide)]; exact g8, g9.congr (hk 4 (by decide)) (ec _ _ (by omega) (by omega)) (fun k _ => ec _ _ (by omega) (by omega)) (fun k _ => es _ (by omega)), fun f' hf' => ?_⟩
  by_cases e : f' = f
  · subst e; exact hF
  · have hn : rb_n hs' f' = rb_n hs f' := rb_n_eq (hk 4 (by decide)) (eh _ (by omega))
    exact (g10 f' (by omega)).same (fun k hk => ec _ _ (by omega) (by omega)) (fun k hk => eh _ (by omega)) hn (fun k hk => ec _ _ (by omega) (by omega)) (ec _ _ (by omega) (by omega)) (fun k hk => ec _ _ (by omega) (by omega)) (fun k _ => es _ (by omega)) (fun k _ => ep _ (by omega))
/-- a fresh frame, with nothing set -/
theorem rb_F.fresh (hsh : rb_R c t hs cs ps) (hk4 : hs' 4 = hs 4) (hx1 : 0 ≤ x1.toInt ∧ x1.toInt ≤ 7) (hx2 : 0 ≤ x2.toInt ∧ x2.toInt ≤ 7) (hx3 : 1 ≤ x3.toInt ∧ x3.toInt ≤ 8) (hx4 : 1 ≤ x4.toInt ∧ x4.toInt ≤ 8)
    (ec : c' (4 + 4 * f) 2 = x1 ∧ c' (4 + 4 * f) 3 = x2 ∧ c' (4 + 4 * f) 4 = x3 ∧ c' (4 + 4 * f) 5 = x4 ∧ c' (4 + 4 * f) 6 = 0 ∧ c' (4 + 4 * f) 7 = 0 ∧ c' (4 + 4 * f) 8 = -1 ∧ c' (4 + 4 * f) 9 = 0)
    (e1 : ∀ k, k < 64 → c' (4 + 4 * f + 1) k = 0) (e2 : c' (4 + 4 * f + 2) 1 = 0) (e3 : ∀ k, k < 16 → c' (4 + 4 * f + 2 + 1) k = 0)
    (eh : hs' (9 * (f + 1)) = x1 ∧ hs' (9 * (f + 1) + 1) = x2 ∧ hs' (9 * (f + 1) + 2) = x3 ∧ hs' (9 * (f + 1) + 3) = x4 ∧ hs' (9 * (f + 1) + 4) = 0 ∧ hs' (9 * (f + 1) + 5) = 0 ∧ hs' (9 * (f + 1) + 6) = 0 ∧ hs' (9 * (f + 1) + 7) = -1 ∧ hs' (9 * (f + 1) + 8) = 0)
    (es : ∀ k, k < 16 → cs' (16 * (f + 1) + k) = 0) (ep : ∀ k, k < 64 → ps' (64 * f + k) = 0) : rb_F c' hs' cs' ps' f := by
  obtain ⟨c1, c2, c3, c4, c5, c6, c7, c8⟩ := ec
  obtain ⟨d0, d1, d2, d3, d4, d5, d6, d7, d8⟩ := eh
  have g9 := hsh.2.2.2.2.2.2.2.2.1.1
  have g8 := hsh.2.2.2.2.2.2.2.1
  have hz : ¬ hs 4 = 0 := fun z => by rw [z] at g8; exact absurd g8 (by decide)
  have hn : rb_n hs' f = rl_cnt (hs 4) := by
    unfold rb_n
    rw [if_pos d4, hk4]
  have h2 : 2 ≤ (rb_n hs' f).toInt := by rw [hn]; exact ((cnt_b g9).2.2.2 hz).2
  refine ⟨fun k hk => ?_, fun k hk => ?_, by rw [d0]; exact hx1, by rw [d1]; exact hx2, by rw [d2]; exact hx3, by rw [d3]; exact hx4, by rw [d5]; decide, by rw [d6]; decide, ?_, Or.inl d8, ⟨by rw [d4]; decide, by rw [e2, d4]; rfl, fun k hk => ?_⟩, fun yy hy z hz => ?_⟩
  · match k, hk with
    | 0, _ => exact c1.trans d0.symm
    | 1, _ => exact c2.trans d1.symm
    | 2, _ => exact c3.trans d2.symm
    | 3, _ => exact c4.trans d3.symm
  · match k, hk with
    | 0, _ => exact c5.trans d5.symm
    | 1, _ => exact c6.trans d6.symm
    | 2, _ => exact c7.trans d7.symm
    | 3, _ => exact c8.trans d8.symm
  · rw [d7]
    exact ⟨by decide, by rw [i3_m1]; omega⟩
  · rw [e3 k hk, es k hk]
    exact ⟨rfl, by decide, fun _ => rfl⟩
  · rw [e1 _ (by omega), Nat.add_assoc (64 * f), ep _ (by omega)]
    exact ⟨fun _ => ⟨rfl, by decide, by rw [i3_0]; omega⟩, fun _ => rfl⟩
/-- Reel.add, on the reel at a -/
def ad_M (I : rl_M) (a : Nat) (x1 x2 x3 x4 : Int32) : rl_M := mc_up (fb_M I (a + 4 + 4 * (I a 4).toNatClampNeg) x1 x2 x3 x4) a 4 (I a 4 + 1)
theorem cc_add (hr : is_R a) (hc : 0 ≤ (I a 4).toInt ∧ (I a 4).toInt < 4) (hK : rb_K I) (h : Q (.inl (some (.ref (a + 4 + 4 * (I a 4).toNatClampNeg)))) (ad_M I a x1 x2 x3 x4, J, rf_w r, sh_w N, n)) : mc_WP (mc_en 190 [.ref a, .int x1, .int x2, .int x3, .int x4] (I, J, rf_w r, sh_w N, n)) Q := by
  have ht := i3_tn (I a 4)
  have hF := is_Ff hr (f := (I a 4).toNatClampNeg) (by omega)
  have hP := (wd_F (r := r) (N := N) hF).2.2.2.2.2
  refine bk_190_0 hr ⟨by rw [vp_iff]; omega, mc_inl ?_⟩
  refine cc_begin hF (hK.1 _ hP) ?_
  refine bk_190_21 hr hF ?_
  have e : fb_M I (a + 4 + 4 * (I a 4).toNatClampNeg) x1 x2 x3 x4 a = I a := fb_ne (by omega) (by omega) (by omega) (by omega)
  rw [e]
  exact h
theorem rb_K.begin (h : rb_K I) (hF : is_F a) : rb_K (fb_M I a x1 x2 x3 x4) := by
  have h18 : 18 ≤ a ∧ a ≤ 50 := by simp only [is_F, List.mem_cons, List.not_mem_nil, or_false] at hF; omega
  refine ⟨fun p hp => ?_, fun q h1 h2 => by rw [fb_ne (by omega) (by omega) (by omega) (by omega)]; exact h.2.1 q h1 h2, fun k h1 => by rw [fb_ne (by omega) (by omega) (by omega) (by omega)]; exact h.2.2 k h1⟩
  by_cases e2 : p = a + 2
  · subst e2
    rw [fb_2]
    decide
  · have h0 : ¬ p = a := fun q => by subst q; simp only [is_P, is_F, List.mem_cons, List.not_mem_nil, or_false] at hp hF; omega
    have h1 : ¬ p = a + 1 := fun q => by subst q; simp only [is_P, is_F, List.mem_cons, List.not_mem_nil, or_false] at hp hF; omega
    have h3 : ¬ p = a + 2 + 1 := fun q => by subst q; simp only [is_P, is_F, List.mem_cons, List.not_mem_nil, or_false] at hp hF; omega
    rw [fb_ne h0 h1 e2 h3]
    exact h.1 p hp
/-- the reference's addFrame -/
def am_M (I : rl_M) (x1 x2 x3 x4 : Int32) : rl_M :=
  mc_fl (mc_fl (mc_up (mc_up (mc_up (mc_up (mc_up (mc_fl (mc_up I 84 1 (I 84 1 + 1)) 85 (9 * ((I 84 1).toNatClampNeg + 1)) 9 0) 85 (9 * ((I 84 1).toNatClampNeg + 1)) x1) 85 (9 * ((I 84 1).toNatClampNeg + 1) + 1) x2) 85 (9 * ((I 84 1).toNatClampNeg + 1) + 2) x3) 85 (9 * ((I 84 1).toNatClampNeg + 1) + 3) x4) 85 (9 * ((I 84 1).toNatClampNeg + 1) + 7) (-1)) 87 (64 * (I 84 1).toNatClampNeg) 64 0) 86 (16 * ((I 84 1).toNatClampNeg + 1)) 16 0
theorem am_l1 {x5 : Int32} (hf : f < 4) (hx : x5 = Int32.ofNat f) : ∀ (m lo : Nat) (I : rl_M), lo + m = 9 →
    mc_WP (65, 107, [.ref 84, .int x1, .int x2, .int x3, .int x4, .int x5, .int (Int32.ofNat (9 * (f + 1))), .int 0], [], (mc_up (mc_up (mc_up (mc_up (mc_up (mc_fl I 85 (9 * (f + 1) + lo) m 0) 85 (9 * (f + 1)) x1) 85 (9 * (f + 1) + 1) x2) 85 (9 * (f + 1) + 2) x3) 85 (9 * (f + 1) + 3) x4) 85 (9 * (f + 1) + 7) (-1), J, rf_w r, sh_w N, n), (0, 0)) Q →
    mc_WP (65, 28, [.ref 84, .int x1, .int x2, .int x3, .int x4, .int x5, .int (Int32.ofNat (9 * (f + 1))), .int (Int32.ofNat lo)], [], (I, J, rf_w r, sh_w N, n), (0, 0)) Q
  | 0, lo, I, h, hq => by
    rw [fl_0] at hq
    have e : ∀ k, k < 9 → Int32.ofNat (9 * (f + 1)) + Int32.ofNat k = Int32.ofNat (9 * (f + 1) + k) := fun k _ => (Int32.ofNat_add _ _).symm
    have e0 : Int32.ofNat (9 * (f + 1)) + 0 = Int32.ofNat (9 * (f + 1) + 0) := e 0 (by decide)
    have e1 : Int32.ofNat (9 * (f + 1)) + 1 = Int32.ofNat (9 * (f + 1) + 1) := e 1 (by decide)
    have e2 : Int32.ofNat (9 * (f + 1)) + 2 = Int32.ofNat (9 * (f + 1) + 2) := e 2 (by decide)
    have e3 : Int32.ofNat (9 * (f + 1)) + 3 = Int32.ofNat (9 * (f + 1) + 3) := e 3 (by decide)
    have e7 : Int32.ofNat (9 * (f + 1)) + 7 = Int32.ofNat (9 * (f + 1) + 7) := e 7 (by decide)
    refine bk_65_28 ⟨fun _ => ?_, fun q => absurd (by rw [Int32.le_iff_toInt_le, on_t (by omega), i3_9]; omega) q⟩
    rw [e0, e1, e2, e3, e7, on_n (by omega), on_n (by omega), on_n (by omega), on_n (by omega), on_n (by omega)]
    refine ⟨by rw [vp_iff, on_t (by omega)]; omega, by rw [vp_iff, on_t (by omega)]; omega, by rw [vp_iff, on_t (by omega)]; omega, by rw [vp_iff, on_t (by omega)]; omega, by rw [vp_iff, on_t (by omega)]; omega, hq⟩
  | m + 1, lo, I, h, hq => by
    refine bk_65_28 ⟨fun q => absurd q (by rw [Int32.le_iff_toInt_le, on_t (by omega), i3_9]; omega), fun _ => ?_⟩
    rw [← Int32.ofNat_add, on_1, on_n (by omega)]
    refine ⟨by rw [vp_iff, on_t (by omega)]; omega, am_l1 hf hx m (lo + 1) _ (by omega) ?_⟩
    rw [← Nat.add_assoc, fl_c]
    exact hq
theorem am_l2 {x5 x6 : Int32} (hf : f < 4) (hx : x5 = Int32.ofNat f) : ∀ (m lo : Nat) (I : rl_M), lo + m = 64 →
    mc_WP (65, 137, [.ref 84, .int x1, .int x2, .int x3, .int x4, .int x5, .int x6, .int 0], [], (mc_fl I 87 (64 * f + lo) m 0, J, rf_w r, sh_w N, n), (0, 0)) Q →
    mc_WP (65, 107, [.ref 84, .int x1, .int x2, .int x3, .int x4, .int x5, .int x6, .int (Int32.ofNat lo)], [], (I, J, rf_w r, sh_w N, n), (0, 0)) Q
  | 0, lo, I, h, hq => by
    rw [fl_0] at hq
    exact bk_65_107 ⟨fun _ => hq, fun q => absurd (by rw [Int32.le_iff_toInt_le, on_t (by omega), i3_64]; omega) q⟩
  | m + 1, lo, I, h, hq => by
    have e : (64 : Int32) * x5 + Int32.ofNat lo = Int32.ofNat (64 * f + lo) := by rw [Int32.ofNat_add, Int32.ofNat_mul, hx]; rfl
    refine bk_65_107 ⟨fun q => absurd q (by rw [Int32.le_iff_toInt_le, on_t (by omega), i3_64]; omega), fun _ => ?_⟩
    rw [e, on_1, on_n (by omega)]
    refine ⟨by rw [vp_iff, on_t (by omega)]; omega, am_l2 hf hx m (lo + 1) _ (by omega) ?_⟩
    rw [← Nat.add_assoc, fl_c]
    exact hq
theorem am_l3 {x5 x6 : Int32} (hf : f < 4) (hx : x5 = Int32.ofNat f) : ∀ (m lo : Nat) (I : rl_M), lo + m = 16 →
    Q (.inl (some (.int x5))) (mc_fl I 86 (16 * (f + 1) + lo) m 0, J, rf_w r, sh_w N, n) →
    mc_WP (65, 137, [.ref 84, .int x1, .int x2, .int x3, .int x4, .int x5, .int x6, .int (Int32.ofNat lo)], [], (I, J, rf_w r, sh_w N, n), (0, 0)) Q
  | 0, lo, I, h, hq => by
    rw [fl_0] at hq
    exact bk_65_137 ⟨fun _ => hq, fun q => absurd (by rw [Int32.le_iff_toInt_le, on_t (by omega), i3_16]; omega) q⟩
  | m + 1, lo, I, h, hq => by
    have e : (16 : Int32) * (x5 + 1) + Int32.ofNat lo = Int32.ofNat (16 * (f + 1) + lo) := by rw [Int32.ofNat_add, Int32.ofNat_mul, Int32.ofNat_add, hx]; rfl
    refine bk_65_137 ⟨fun q => absurd q (by rw [Int32.le_iff_toInt_le, on_t (by omega), i3_16]; omega), fun _ => ?_⟩
    rw [e, on_1, on_n (by omega)]
    refine ⟨by rw [vp_iff, on_t (by omega)]; omega, am_l3 hf hx m (lo + 1) _ (by omega) ?_⟩
    rw [← Nat.add_assoc, fl_c]
    exact hq
theorem cm_add (hc : 0 ≤ (I 84 1).toInt ∧ (I 84 1).toInt < 4) (h : Q (.inl (some (.int (I 84 1)))) (am_M I x1 x2 x3 x4, J, rf_w r, sh_w N, n)) : mc_WP (mc_en 65 [.ref 84, .int x1, .int x2, .int x3, .int x4] (I, J, rf_w r, sh_w N, n)) Q := by
  have ht := i3_tn (I 84 1)
  have ho := on_of hc.1
  have hf : (I 84 1).toNatClampNeg < 4 := by omega
  refine bk_65_0 ?_
  have e : (9 : Int32) * (I 84 1 + 1) = Int32.ofNat (9 * ((I 84 1).toNatClampNeg + 1)) := by rw [Int32.ofNat_mul, Int32.ofNat_add, ← ho]; rfl
  rw [e]
  refine am_l1 hf ho 9 0 _ (by omega) ?_
  refine am_l2 hf ho 64 0 _ (by omega) ?_
  exact am_l3 hf ho 16 0 _ (by omega) h
end
