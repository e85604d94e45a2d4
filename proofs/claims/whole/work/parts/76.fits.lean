section
variable {I : rl_M} {J : Nat → Nat → Int64} {r N n : Nat} {Q : mc_Q} {v x1 x2 x3 y4 x4 : Int32} {x5 x6 : Value} {u : mc_U} {a b lo m j k z f : Nat}
/-- clear and the pixels of frame f are less than t -/
def pf_lt (hs ps : rl_A) (f : Nat) (t : Int) : Prop := (hs (9 * (f + 1) + 7)).toInt < t ∧ ∀ y x : Nat, (y : Int) < (hs (9 * (f + 1) + 3)).toInt → (x : Int) < (hs (9 * (f + 1) + 2)).toInt → (ps (64 * f + 8 * y + x)).toInt < t
theorem ff_lp (hF : is_F a) : ∀ (m k : Nat) (g : Int32), k + m = 64 → ((g.toInt < x1.toInt ∧ ∀ j, k ≤ j → j < 64 → (I (a + 1) j).toInt < x1.toInt) → Q (.inl (some (.int 1))) (I, J, rf_w r, sh_w N, n)) → (¬ (g.toInt < x1.toInt ∧ ∀ j, k ≤ j → j < 64 → (I (a + 1) j).toInt < x1.toInt) → Q (.inl (some (.int 0))) (I, J, rf_w r, sh_w N, n)) →
    mc_WP (141, 7, [.ref a, .int x1, .int g, .int (Int32.ofNat k)], [], (I, J, rf_w r, sh_w N, n), (0, 0)) Q
  | 0, k, g, h, h1, h0 => by
    refine bk_141_7 hF ⟨fun _ => ⟨fun q => h0 (fun z => ?_), fun q => h1 ⟨?_, fun j _ _ => by omega⟩⟩, fun q => absurd (by rw [Int32.le_iff_toInt_le, on_t (by omega), i3_64]; omega) q⟩
    · have := z.1; simp only [Int32.lt_iff_toInt_lt, Int32.le_iff_toInt_le, Int32.toInt_add, Int32.toInt_sub, Int32.toInt_mul, Int.bmod_def, i3_m1, i3_0, i3_1, i3_2, i3_3, i3_4, i3_5, i3_6, i3_7, i3_8, i3_9, i3_10, i3_15, i3_16, i3_19, i3_20, i3_24, i3_31, i3_33, i3_44, i3_45, i3_48, i3_49, i3_59, i3_63, i3_64, i3_80, i3_100, i3_192, i3_200000, i3_254, i3_255, i3_256, i3_800, i3_16777215, i3_16777216] at q; omega
    · simp only [Int32.lt_iff_toInt_lt, Int32.le_iff_toInt_le, Int32.toInt_add, Int32.toInt_sub, Int32.toInt_mul, Int.bmod_def, i3_m1, i3_0, i3_1, i3_2, i3_3, i3_4, i3_5, i3_6, i3_7, i3_8, i3_9, i3_10, i3_15, i3_16, i3_19, i3_20, i3_24, i3_31, i3_33, i3_44, i3_45, i3_48, i3_49, i3_59, i3_63, i3_64, i3_80, i3_100, i3_192, i3_200000, i3_254, i3_255, i3_256, i3_800, i3_16777215, i3_16777216] at q; omega
  | m + 1, k, g, h, h1, h0 => by
    refine bk_141_7 hF ⟨fun q => absurd q (by rw [Int32.le_iff_toInt_le, on_t (by omega), i3_64]; omega), fun _ => ⟨by rw [vp_iff, on_t (by omega)]; omega, ?_⟩⟩
    rw [on_1, on_n (by omega)]
    have e : ∀ P : Prop, ((if g < I (a + 1) k then I (a + 1) k else g).toInt < x1.toInt ∧ P) ↔ (g.toInt < x1.toInt ∧ (I (a + 1) k).toInt < x1.toInt ∧ P) := by
      intro P
      by_cases q : g < I (a + 1) k
      · rw [if_pos q, Int32.lt_iff_toInt_lt] at *
        exact ⟨fun z => ⟨by omega, z.1, z.2⟩, fun z => ⟨z.2.1, z.2.2⟩⟩
      · rw [if_neg q]
        rw [Int32.lt_iff_toInt_lt] at q
        exact ⟨fun z => ⟨z.1, by omega, z.2⟩, fun z => ⟨z.1, z.2.2⟩⟩
    have e2 : (g.toInt < x1.toInt ∧ ∀ j, k ≤ j → j < 64 → (I (a + 1) j).toInt < x1.toInt) ↔ ((if g < I (a + 1) k then I (a + 1) k else g).toInt < x1.toInt ∧ ∀ j, k + 1 ≤ j → j < 64 → (I (a + 1) j).toInt < x1.toInt) := by
      rw [e]
      constructor
      · intro z
        exact ⟨z.1, z.2 k (by omega) (by omega), fun j h1 h2 => z.2 j (by omega) h2⟩
      · intro z
        refine ⟨z.1, fun j h1 h2 => ?_⟩
        by_cases q : j = k
        · subst q; exact z.2.1
        · exact z.2.2 j (by omega) h2
    exact ff_lp hF m (k + 1) _ (by omega) (fun z => h1 (e2.mpr z)) (fun z => h0 (fun q => z (e2.mp q)))
theorem cc_fits (hr : is_R r) (hf : f < 4) (hF : rb_F (rl_v r I) (I 85) (I 86) (I 87) f) (ht : 1 ≤ x1.toInt) (h1 : pf_lt (I 85) (I 87) f x1.toInt → Q (.inl (some (.int 1))) (I, J, rf_w r, sh_w N, n)) (h0 : ¬ pf_lt (I 85) (I 87) f x1.toInt → Q (.inl (some (.int 0))) (I, J, rf_w r, sh_w N, n)) :
    mc_WP (mc_en 141 [.ref (r + 4 + 4 * f), .int x1] (I, J, rf_w r, sh_w N, n)) Q := by
  have hiF := is_Ff hr hf
  obtain ⟨a1, a2, -, -, aw, ah, -, -, -, -, -, a12⟩ := hF
  have e8 : I (r + 4 + 4 * f) 8 = I 85 (9 * (f + 1) + 7) := by rw [fv_0 (I := I) hf]; exact a2 2 (by decide)
  have key : pf_lt (I 85) (I 87) f x1.toInt ↔ ((I (r + 4 + 4 * f) 8).toInt < x1.toInt ∧ ∀ j, 0 ≤ j → j < 64 → (I (r + 4 + 4 * f + 1) j).toInt < x1.toInt) := by
    unfold pf_lt
    rw [e8]
    constructor
    · intro z
      refine ⟨z.1, fun j _ hj => ?_⟩
      rw [fv_1 (I := I) hf, show j = 8 * (j / 8) + j % 8 by omega]
      have := a12 (j / 8) (by omega) (j % 8) (by omega)
      by_cases q : ((j % 8 : Nat) : Int) < (I 85 (9 * (f + 1) + 2)).toInt ∧ ((j / 8 : Nat) : Int) < (I 85 (9 * (f + 1) + 3)).toInt
      · rw [(this.1 q).1]; exact z.2 _ _ q.2 q.1
      · rw [this.2 q, i3_0]; omega
    · intro z
      refine ⟨z.1, fun y x hy hx => ?_⟩
      have := (a12 y (by omega) x (by omega)).1 ⟨hx, hy⟩
      rw [← this.1, ← fv_1 (I := I) hf]
      exact z.2 _ (Nat.zero_le _) (by omega)
  refine bk_141_0 hiF ?_
  exact ff_lp hiF 64 0 _ (by omega) (fun z => h1 (key.mpr z)) (fun z => h0 (fun q => z (key.mp q)))
/-- the reference's greatest -/
theorem gr_lx {hw : Nat} (hf : f < 4) (hx1 : x1 = Int32.ofNat f) (hW : (I 85 (9 * (f + 1) + 2)).toInt = hw) (h8 : hw ≤ 8) {y : Nat} (hy : y < 8) : ∀ (m x : Nat) (g : Int32) (x5 : Value), x + m = hw →
    (∀ v x5', (∀ t : Int, v.toInt < t ↔ (g.toInt < t ∧ ∀ j, x ≤ j → j < hw → (I 87 (64 * f + 8 * y + j)).toInt < t)) → mc_WP (61, 17, [.ref 84, .int x1, .int v, .int (Int32.ofNat y + 1), .int (Int32.ofNat hw), x5'], [], (I, J, rf_w r, sh_w N, n), (0, 0)) Q) →
    mc_WP (61, 37, [.ref 84, .int x1, .int g, .int (Int32.ofNat y), .int (Int32.ofNat x), x5], [], (I, J, rf_w r, sh_w N, n), (0, 0)) Q
  | 0, x, g, x5, h, hq => by
    have e2 := ix_9 (x1 := x1) (k := 2) (by rw [hx1, on_t (by omega)]; omega) (by decide)
    rw [show (2 : Int32).toNatClampNeg = 2 from rfl, hx1, on_n (by omega), ← hx1] at e2
    have hx : x = hw := by omega
    subst hx
    refine bk_61_37 ⟨e2.2, fun _ => hq _ _ (fun t => ⟨fun z => ⟨z, fun j h1 h2 => by omega⟩, fun z => z.1⟩), fun q => absurd ?_ q⟩
    rw [e2.1, Int32.le_iff_toInt_le, hW, on_t (by omega)]
    omega
  | m + 1, x, g, x5, h, hq => by
    have e2 := ix_9 (x1 := x1) (k := 2) (by rw [hx1, on_t (by omega)]; omega) (by decide)
    rw [show (2 : Int32).toNatClampNeg = 2 from rfl, hx1, on_n (by omega), ← hx1] at e2
    have e64 : (64 : Int32) * x1 + 8 * Int32.ofNat y + Int32.ofNat x = Int32.ofNat (64 * f + 8 * y + x) := by rw [Int32.ofNat_add, Int32.ofNat_add, Int32.ofNat_mul, Int32.ofNat_mul, hx1]; rfl
    refine bk_61_37 ⟨e2.2, fun q => absurd q ?_, fun _ => ?_⟩
    · rw [e2.1, Int32.le_iff_toInt_le, hW, on_t (by omega)]; omega
    · rw [e64, on_1, on_n (by omega)]
      have st : ∀ (g' : Int32), (∀ t : Int, g'.toInt < t ↔ (g.toInt < t ∧ (I 87 (64 * f + 8 * y + x)).toInt < t)) → ∀ x5', mc_WP (61, 37, [.ref 84, .int x1, .int g', .int (Int32.ofNat y), .int (Int32.ofNat (x + 1)), x5'], [], (I, J, rf_w r, sh_w N, n), (0, 0)) Q := by
        intro g' hg' x5'
        refine gr_lx hf hx1 hW h8 hy m (x + 1) g' x5' (by omega) (fun v x5'' hv => hq v x5'' (fun t => ?_))
        rw [hv t, hg' t]
        constructor
        · intro z
          refine ⟨z.1.1, fun j h1 h2 => ?_⟩
          by_cases q : j = x
          · subst q; exact z.1.2
          · exact z.2 j (by omega) h2
        · intro z
          exact ⟨⟨z.1, z.2 x (by omega) (by omega)⟩, fun j h1 h2 => z.2 j (by omega) h2⟩
      refine ⟨by rw [vp_iff, on_t (by omega)]; omega, fun q => st g (fun t => ?_) _, fun q => st _ (fun t => ?_) _⟩
      · rw [Int32.le_iff_toInt_le] at q
        omega
      · rw [Int32.le_iff_toInt_le] at q
        omega
theorem gr_ly {hw hh : Nat} (hf : f < 4) (hx1 : x1 = Int32.ofNat f) (hW : (I 85 (9 * (f + 1) + 2)).toInt = hw) (hH : (I 85 (9 * (f + 1) + 3)).toInt = hh) (h8 : hw ≤ 8) (h8' : hh ≤ 8) : ∀ (m y : Nat) (g : Int32) (x4 x5 : Value), y + m = hh →
    (∀ v, (∀ t : Int, v.toInt < t ↔ (g.toInt < t ∧ ∀ i j, y ≤ i → i < hh → j < hw → (I 87 (64 * f + 8 * i + j)).toInt < t)) → Q (.inl (some (.int v))) (I, J, rf_w r, sh_w N, n)) →
    mc_WP (61, 17, [.ref 84, .int x1, .int g, .int (Int32.ofNat y), x4, x5], [], (I, J, rf_w r, sh_w N, n), (0, 0)) Q
  | 0, y, g, x4, x5, h, hq => by
    have e3 := ix_9 (x1 := x1) (k := 3) (by rw [hx1, on_t (by omega)]; omega) (by decide)
    rw [show (3 : Int32).toNatClampNeg = 3 from rfl, hx1, on_n (by omega), ← hx1] at e3
    refine bk_61_17 ⟨e3.2, fun _ => hq g (fun t => ⟨fun z => ⟨z, fun i j h1 h2 h3 => by omega⟩, fun z => z.1⟩), fun q => absurd ?_ q⟩
    rw [e3.1, Int32.le_iff_toInt_le, hH, on_t (by omega)]
    omega
  | m + 1, y, g, x4, x5, h, hq => by
    have e3 := ix_9 (x1 := x1) (k := 3) (by rw [hx1, on_t (by omega)]; omega) (by decide)
    rw [show (3 : Int32).toNatClampNeg = 3 from rfl, hx1, on_n (by omega), ← hx1] at e3
    refine bk_61_17 ⟨e3.2, fun q => absurd q (by rw [e3.1, Int32.le_iff_toInt_le, hH, on_t (by omega)]; omega), fun _ => ?_⟩
    refine gr_lx hf hx1 hW h8 (by omega) hw 0 g x5 (by omega) (fun v x5' hv => ?_)
    rw [on_1]
    refine gr_ly hf hx1 hW hH h8 h8' m (y + 1) v _ _ (by omega) (fun w hw' => hq w (fun t => ?_))
    rw [hw' t, hv t]
    constructor
    · intro z
      refine ⟨z.1.1, fun i j h1 h2 h3 => ?_⟩
      by_cases q : i = y
      · subst q; exact z.1.2 j (by omega) h3
      · exact z.2 i j (by omega) h2 h3
    · intro z
      exact ⟨⟨z.1, fun j h1 h2 => z.2 y j (by omega) (by omega) h2⟩, fun i j h1 h2 h3 => z.2 i j (by omega) h2 h3⟩
theorem cm_greatest {c : rl_M} (hf : f < 4) (hx1 : x1 = Int32.ofNat f) (hF : rb_F c (I 85) (I 86) (I 87) f) (hq : ∀ v, (∀ t : Int, v.toInt < t ↔ pf_lt (I 85) (I 87) f t) → Q (.inl (some (.int v))) (I, J, rf_w r, sh_w N, n)) : mc_WP (mc_en 61 [.ref 84, .int x1] (I, J, rf_w r, sh_w N, n)) Q := by
  obtain ⟨-, -, -, -, aw, ah, -⟩ := hF
  have e7 := ix_9 (x1 := x1) (k := 7) (by rw [hx1, on_t (by omega)]; omega) (by decide)
  rw [show (7 : Int32).toNatClampNeg = 7 from rfl, hx1, on_n (by omega), ← hx1] at e7
  refine bk_61_0 ⟨e7.2, ?_⟩
  rw [e7.1]
  refine gr_ly (hw := (I 85 (9 * (f + 1) + 2)).toInt.toNat) (hh := (I 85 (9 * (f + 1) + 3)).toInt.toNat) hf hx1 (by omega) (by omega) (by omega) (by omega) _ 0 _ _ _ (Nat.zero_add _) (fun v hv => hq v (fun t => ?_))
  rw [hv t]
  unfold pf_lt
  constructor
  · intro z
    exact ⟨z.1, fun y x hy hx => z.2 y x (by omega) (by omega) (by omega)⟩
  · intro z
    exact ⟨z.1, fun i j h1 h2 h3 => z.2 i j (by omega) (by omega)⟩
end
