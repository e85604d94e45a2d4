section
variable {I : rl_M} {J : Nat → Nat → Int64} {r N n : Nat} {Q : mc_Q} {v x1 x2 x3 y4 x4 : Int32} {x5 x6 : Value} {u : mc_U} {a b lo m j k z f : Nat}
def su_n (hs : rl_A) (x2 : Int32) : Int32 := if x2 = 0 then rl_cnt (hs 4) else rl_cnt x2
def su_u (hs : rl_A) (x1 : Int32) (g : Nat) : Prop := (x1.toInt < 0 → hs (9 * (g + 1) + 4) = 0) ∧ (¬ x1.toInt < 0 → (g : Int) = x1.toInt)
def su_ok (hs ps : rl_A) (cnt x1 x2 : Int32) : Prop := ∀ g : Nat, (g : Int) < cnt.toInt → su_u hs x1 g → pf_lt hs ps g (su_n hs x2).toInt
theorem su_b {c : rl_M} {m : Int32} {hs cs ps : rl_A} (hR : rb_R c m hs cs ps) (h2 : 0 ≤ x2.toInt ∧ x2.toInt ≤ 4) : 2 ≤ (su_n hs x2).toInt ∧ (su_n hs x2).toInt ≤ 16 ∧ (x2 = 0 → su_n hs x2 = 1 <<< (hs 4 &&& 31)) ∧ (¬ x2 = 0 → su_n hs x2 = 1 <<< (x2 &&& 31)) := by
  have h9 := cnt_b hR.2.2.2.2.2.2.2.2.1.1
  have h8 := hR.2.2.2.2.2.2.2.1
  rw [show 9 * 0 + 4 = 4 from rfl] at h9
  have z4 : ¬ hs 4 = 0 := fun z => by rw [z] at h8; exact absurd h8 (by decide)
  have c2 := cnt_b h2
  unfold su_n
  by_cases q : x2 = 0
  · rw [if_pos q]
    exact ⟨(h9.2.2.2 z4).2, h9.2.1, fun _ => (h9.2.2.2 z4).1, fun w => absurd q w⟩
  · rw [if_neg q]
    exact ⟨(c2.2.2.2 q).2, c2.2.1, fun w => absurd w q, fun _ => (c2.2.2.2 q).1⟩
theorem su_lp {c : rl_M} {cnt : Nat} (hR : rb_R c (I 84 1) (I 85) (I 86) (I 87)) (h2 : 0 ≤ x2.toInt ∧ x2.toInt ≤ 4) (hc : (I 84 1).toInt = cnt) : ∀ (m k : Nat) (x3 : Int32) (x5 x6 : Value), k + m = cnt → (x3 = 0 ∨ x3 = 1) →
    (x3 = 1 → (∀ g : Nat, k ≤ g → g < cnt → su_u (I 85) x1 g → pf_lt (I 85) (I 87) g (su_n (I 85) x2).toInt) → Q (.inl (some (.int 1))) (I, J, rf_w r, sh_w N, n)) →
    (¬ (x3 = 1 ∧ (∀ g : Nat, k ≤ g → g < cnt → su_u (I 85) x1 g → pf_lt (I 85) (I 87) g (su_n (I 85) x2).toInt)) → Q (.inl (some (.int 0))) (I, J, rf_w r, sh_w N, n)) →
    mc_WP (62, 5, [.ref 84, .int x1, .int x2, .int x3, .int (Int32.ofNat k), x5, x6], [], (I, J, rf_w r, sh_w N, n), (0, 0)) Q
  | 0, k, x3, x5, x6, h, h3, q1, q0 => by
    have hb := hR.1
    refine bk_62_5 ⟨fun _ => ⟨h3, ?_⟩, fun q => absurd (by rw [Int32.le_iff_toInt_le, hc, on_t (by omega)]; omega) q⟩
    rcases h3 with e | e
    · rw [e]; exact q0 (fun z => absurd z.1 (by rw [e]; decide))
    · rw [e]; exact q1 e (fun g h1 h2 => by omega)
  | m + 1, k, x3, x5, x6, h, h3, q1, q0 => by
    have hb := hR.1
    obtain ⟨s1, s2, s3, s4⟩ := su_b (x2 := x2) hR h2
    have hF := hR.2.2.2.2.2.2.2.2.2 k (by omega)
    have e4 := ix_9 (x1 := Int32.ofNat k) (k := 4) (by rw [on_t (by omega)]; omega) (by decide)
    rw [show (4 : Int32).toNatClampNeg = 4 from rfl, on_n (by omega)] at e4
    have next : ∀ (y : Int32) (x5 x6 : Value), (y = 0 ∨ y = 1) → (y = 1 ↔ (x3 = 1 ∧ (su_u (I 85) x1 k → pf_lt (I 85) (I 87) k (su_n (I 85) x2).toInt))) → mc_WP (62, 5, [.ref 84, .int x1, .int x2, .int y, .int (Int32.ofNat k + 1), x5, x6], [], (I, J, rf_w r, sh_w N, n), (0, 0)) Q := by
      intro y x5 x6 hy hi
      rw [on_1]
      have e : (∀ g : Nat, k ≤ g → g < cnt → su_u (I 85) x1 g → pf_lt (I 85) (I 87) g (su_n (I 85) x2).toInt) ↔ ((su_u (I 85) x1 k → pf_lt (I 85) (I 87) k (su_n (I 85) x2).toInt) ∧ ∀ g : Nat, k + 1 ≤ g → g < cnt → su_u (I 85) x1 g → pf_lt (I 85) (I 87) g (su_n (I 85) x2).toInt) := by
        constructor
        · intro z
          exact ⟨z k (by omega) (by omega), fun g h1 h2 => z g (by omega) h2⟩
        · intro z g h1 h2
          by_cases q : g = k
          · subst q; exact z.1
          · exact z.2 g (by omega) h2
      refine su_lp hR h2 hc m (k + 1) y x5 x6 (by omega) hy (fun a b => ?_) (fun a => q0 (fun z => a ?_))
      · have := hi.mp a
        exact q1 this.1 (e.mpr ⟨this.2, b⟩)
      · have := e.mp z.2
        exact ⟨hi.mpr ⟨z.1, this.1⟩, this.2⟩
    have st2 : ∀ (y : Int32) (x5 x6 : Value), (y = 0 ∨ y = 1) → (y = 1 ↔ su_u (I 85) x1 k) → mc_WP (62, 54, [.ref 84, .int x1, .int x2, .int x3, .int (Int32.ofNat k), x5, x6], [.int y], (I, J, rf_w r, sh_w N, n), (0, 0)) Q := by
      intro y x5 x6 hy hi
      have st3 : ∀ (w : Int32), (1 : Int32) <<< (w &&& 31) = su_n (I 85) x2 → mc_WP (62, 70, [.ref 84, .int x1, .int x2, .int x3, .int (Int32.ofNat k), .int y, x6], [.int w], (I, J, rf_w r, sh_w N, n), (0, 0)) Q := by
        intro w hw
        refine bk_62_70 ⟨fun a => ?_, fun a => ⟨fun b => ?_, fun b => mc_inl ?_⟩⟩
        · exact bk_62_98 (bk_62_99 (next 0 _ _ (Or.inl rfl) ⟨fun q => absurd q (by decide), fun q => absurd q.1 (by rw [a]; decide)⟩))
        · refine bk_62_94 (bk_62_99 (next 1 _ _ (Or.inr rfl) ⟨fun _ => ⟨?_, fun q => ?_⟩, fun _ => rfl⟩))
          · rcases h3 with e | e
            · exact absurd e a
            · exact e
          · have := hi.mpr q
            rw [b] at this
            exact absurd this (by decide)
        · refine cm_greatest (by omega) rfl hF (fun g hg => ?_)
          have hy1 : y = 1 := by
            rcases hy with e | e
            · exact absurd e b
            · exact e
          have hx3 : x3 = 1 := by
            rcases h3 with e | e
            · exact absurd e a
            · exact e
          refine bk_62_87 ⟨fun d => ?_, fun d => ?_⟩
          · rw [hw, Int32.le_iff_toInt_le] at d
            refine bk_62_98 (bk_62_99 (next 0 _ _ (Or.inl rfl) ⟨fun q => absurd q (by decide), fun q => ?_⟩))
            have := (hg _).mpr (q.2 (hi.mp hy1))
            omega
          · rw [hw, Int32.le_iff_toInt_le] at d
            exact bk_62_94 (bk_62_99 (next 1 _ _ (Or.inr rfl) ⟨fun _ => ⟨hx3, fun _ => (hg _).mp (by omega)⟩, fun _ => rfl⟩))
      refine bk_62_54 ⟨fun a => st3 _ ?_, fun a => st3 _ ?_⟩
      · exact (s3 (by rw [← Int32.toInt_inj]; simp only [Int32.lt_iff_toInt_lt, Int32.le_iff_toInt_le, Int32.toInt_add, Int32.toInt_sub, Int32.toInt_mul, Int.bmod_def, i3_m1, i3_0, i3_1, i3_2, i3_3, i3_4, i3_5, i3_6, i3_7, i3_8, i3_9, i3_10, i3_15, i3_16, i3_19, i3_20, i3_24, i3_31, i3_33, i3_44, i3_45, i3_48, i3_49, i3_59, i3_63, i3_64, i3_80, i3_100, i3_192, i3_200000, i3_254, i3_255, i3_256, i3_800, i3_16777215, i3_16777216] at a ⊢; omega)).symm
      · exact (s4 (fun q => a (by rw [q]; decide))).symm
    refine bk_62_5 ⟨fun q => absurd q (by rw [Int32.le_iff_toInt_le, hc, on_t (by omega)]; omega), fun _ => ?_⟩
    rw [e4.1]
    refine ⟨fun a => ⟨fun b => st2 0 _ _ (Or.inl rfl) ⟨fun q => absurd q (by decide), fun q => ?_⟩, fun b => st2 1 _ _ (Or.inr rfl) ⟨fun _ => ?_, fun _ => rfl⟩⟩, fun a => ⟨e4.2, fun b => st2 0 _ _ (Or.inl rfl) ⟨fun q => absurd q (by decide), fun q => ?_⟩, fun b => st2 1 _ _ (Or.inr rfl) ⟨fun _ => ?_, fun _ => rfl⟩⟩⟩
    · rw [Int32.le_iff_toInt_le, i3_0] at a
      have := q.2 (by omega)
      exact absurd (by rw [← Int32.toInt_inj, on_t (by omega)]; exact this) b
    · rw [Int32.le_iff_toInt_le, i3_0] at a
      have b' := Classical.not_not.mp b
      exact ⟨fun q => by omega, fun _ => by rw [← b', on_t (by omega)]⟩
    · rw [Int32.le_iff_toInt_le, i3_0] at a
      exact absurd (q.1 (by omega)) b
    · rw [Int32.le_iff_toInt_le, i3_0] at a
      exact ⟨fun _ => Classical.not_not.mp b, fun q => absurd (by omega) q⟩
theorem cm_suits {c : rl_M} (hR : rb_R c (I 84 1) (I 85) (I 86) (I 87)) (h2 : 0 ≤ x2.toInt ∧ x2.toInt ≤ 4) (h1 : su_ok (I 85) (I 87) (I 84 1) x1 x2 → Q (.inl (some (.int 1))) (I, J, rf_w r, sh_w N, n)) (h0 : ¬ su_ok (I 85) (I 87) (I 84 1) x1 x2 → Q (.inl (some (.int 0))) (I, J, rf_w r, sh_w N, n)) : mc_WP (mc_en 62 [.ref 84, .int x1, .int x2] (I, J, rf_w r, sh_w N, n)) Q := by
  have hb := hR.1
  refine bk_62_0 ?_
  refine su_lp (cnt := (I 84 1).toInt.toNat) hR h2 (by omega) _ 0 1 _ _ (Nat.zero_add _) (Or.inr rfl) (fun _ z => h1 (fun g hg => z g (Nat.zero_le _) (by omega))) (fun z => h0 (fun q => z ⟨rfl, fun g _ hg => q g (by omega)⟩))
/-- the class's ways to look: allowsShared, allowsOwn -/
theorem sh_lp {cnt : Nat} (hr : is_R r) (hR : rb_R (rl_v r I) (I 84 1) (I 85) (I 86) (I 87)) (ht : 1 ≤ x1.toInt) (hc : (I 84 1).toInt = cnt) : ∀ (m k : Nat), k + m = cnt →
    ((∀ g : Nat, k ≤ g → g < cnt → I 85 (9 * (g + 1) + 4) = 0 → pf_lt (I 85) (I 87) g x1.toInt) → Q (.inl (some (.int 1))) (I, J, rf_w r, sh_w N, n)) →
    (¬ (∀ g : Nat, k ≤ g → g < cnt → I 85 (9 * (g + 1) + 4) = 0 → pf_lt (I 85) (I 87) g x1.toInt) → Q (.inl (some (.int 0))) (I, J, rf_w r, sh_w N, n)) →
    mc_WP (193, 2, [.ref r, .int x1, .int (Int32.ofNat k)], [], (I, J, rf_w r, sh_w N, n), (0, 0)) Q
  | 0, k, h, q1, q0 => by
    have hb := hR.1
    have e4 : I r 4 = I 84 1 := by have := hR.2.1; rw [rl_v0 _ _ _ _ (by decide)] at this; exact this
    exact bk_193_2 hr ⟨fun _ => q1 (fun g h1 h2 => by omega), fun q => absurd (by rw [e4, Int32.le_iff_toInt_le, hc, on_t (by omega)]; omega) q⟩
  | m + 1, k, h, q1, q0 => by
    have hb := hR.1
    have e4 : I r 4 = I 84 1 := by have := hR.2.1; rw [rl_v0 _ _ _ _ (by decide)] at this; exact this
    have hF := hR.2.2.2.2.2.2.2.2.2 k (by omega)
    have hk4 : k < 4 := by omega
    have hp := hF.2.2.2.2.2.2.2.2.2.2.1
    have p1 : I (r + 4 + 4 * k + 2) 1 = rl_cnt (I 85 (9 * (k + 1) + 4)) := by rw [fv_2 (I := I) hk4]; exact hp.2.1
    have p3 := cnt_b hp.1
    have e : (∀ g : Nat, k ≤ g → g < cnt → I 85 (9 * (g + 1) + 4) = 0 → pf_lt (I 85) (I 87) g x1.toInt) ↔ ((I 85 (9 * (k + 1) + 4) = 0 → pf_lt (I 85) (I 87) k x1.toInt) ∧ ∀ g : Nat, k + 1 ≤ g → g < cnt → I 85 (9 * (g + 1) + 4) = 0 → pf_lt (I 85) (I 87) g x1.toInt) := by
      constructor
      · intro z
        exact ⟨z k (by omega) (by omega), fun g h1 h2 => z g (by omega) h2⟩
      · intro z g h1 h2
        by_cases q : g = k
        · subst q; exact z.1
        · exact z.2 g (by omega) h2
    have next : (I 85 (9 * (k + 1) + 4) = 0 → pf_lt (I 85) (I 87) k x1.toInt) → mc_WP (193, 2, [.ref r, .int x1, .int (Int32.ofNat k + 1)], [], (I, J, rf_w r, sh_w N, n), (0, 0)) Q := fun a => by
      rw [on_1]
      exact sh_lp hr hR ht hc m (k + 1) (by omega) (fun z => q1 (e.mpr ⟨a, z⟩)) (fun z => q0 (fun q => z (e.mp q).2))
    have hv : vp_in (Int32.ofNat k) 4 := by rw [vp_iff, on_t (by omega)]; omega
    refine bk_193_2 hr ⟨fun q => absurd q (by rw [e4, Int32.le_iff_toInt_le, hc, on_t (by omega)]; omega), fun _ => ⟨hv, ?_⟩⟩
    rw [on_n (by omega), p1]
    refine ⟨fun a => next (fun q => absurd (p3.2.2.1 q) a), fun a => ⟨hv, mc_inl ?_⟩⟩
    have a' := Classical.not_not.mp a
    have z : I 85 (9 * (k + 1) + 4) = 0 := by
      by_cases q : I 85 (9 * (k + 1) + 4) = 0
      · exact q
      · have := (p3.2.2.2 q).2
        rw [a', i3_0] at this
        omega
    refine cc_fits hr hk4 hF ht (fun b => bk_193_35 hr ⟨fun _ => next (fun _ => b), fun q => absurd (show ¬ (1 : Int32) = 0 by decide) q⟩) (fun b => bk_193_35 hr ⟨fun q => absurd rfl q, fun _ => q0 (fun q => b ((e.mp q).1 z))⟩)
theorem cc_shared (hr : is_R r) (hR : rb_R (rl_v r I) (I 84 1) (I 85) (I 86) (I 87)) (hn1 : x1.toInt = -1) (h2 : 1 ≤ x2.toInt ∧ x2.toInt ≤ 4) (h1 : su_ok (I 85) (I 87) (I 84 1) x1 x2 → Q (.inl (some (.int 1))) (I, J, rf_w r, sh_w N, n)) (h0 : ¬ su_ok (I 85) (I 87) (I 84 1) x1 x2 → Q (.inl (some (.int 0))) (I, J, rf_w r, sh_w N, n)) : mc_WP (mc_en 193 [.ref r, .int (rl_cnt x2)] (I, J, rf_w r, sh_w N, n)) Q := by
  have hb := hR.1
  have z2 : ¬ x2 = 0 := fun q => by rw [q] at h2; exact absurd h2.1 (by decide)
  have hs : su_n (I 85) x2 = rl_cnt x2 := by unfold su_n; rw [if_neg z2]
  have h2' := ((cnt_b (b := x2) (by omega)).2.2.2 z2).2
  refine bk_193_0 hr ?_
  refine sh_lp (cnt := (I 84 1).toInt.toNat) hr hR (by omega) (by omega) _ 0 (Nat.zero_add _) (fun z => h1 (fun g hg hu => ?_)) (fun z => h0 (fun q => z (fun g _ hg h0 => ?_)))
  · rw [hs]; exact z g (Nat.zero_le _) (by omega) (hu.1 (by omega))
  · have := q g (by omega) ⟨fun _ => h0, fun w => absurd (by omega) w⟩
    rw [hs] at this
    exact this
theorem cc_own (hr : is_R r) (hR : rb_R (rl_v r I) (I 84 1) (I 85) (I 86) (I 87)) (hf : fr_in (I 84 1) x1) (h2 : 0 ≤ x2.toInt ∧ x2.toInt ≤ 4) (h1 : su_ok (I 85) (I 87) (I 84 1) x1 x2 → Q (.inl (some (.int 1))) (I, J, rf_w r, sh_w N, n)) (h0 : ¬ su_ok (I 85) (I 87) (I 84 1) x1 x2 → Q (.inl (some (.int 0))) (I, J, rf_w r, sh_w N, n)) : mc_WP (mc_en 192 [.ref r, .int x1, .int (rl_cnt x2)] (I, J, rf_w r, sh_w N, n)) Q := by
  obtain ⟨g1, g2, g3, g4⟩ := fr_f hR hf
  have hb := hR.1
  have h9 := hR.2.2.2.2.2.2.2.2.1
  have s1 : I (r + 1) 1 = rl_cnt (I 85 4) := by have := h9.2.1; rw [rl_v0 _ _ _ _ (by decide)] at this; exact this
  obtain ⟨n1, n2, -, -⟩ := su_b (x2 := x2) hR h2
  have c2 := cnt_b h2
  have key : su_ok (I 85) (I 87) (I 84 1) x1 x2 ↔ pf_lt (I 85) (I 87) x1.toNatClampNeg (su_n (I 85) x2).toInt := by
    unfold fr_in at hf
    constructor
    · intro q
      exact q _ (by omega) ⟨fun w => absurd w (by omega), fun _ => g2⟩
    · intro q g hg hu
      have := hu.2 (by omega)
      have e : g = x1.toNatClampNeg := by omega
      rw [e]; exact q
  have go : ∀ w : Int32, w = su_n (I 85) x2 → mc_WP (mc_en 141 [.ref (r + 4 + 4 * x1.toNatClampNeg), .int w] (I, J, rf_w r, sh_w N, n)) (mc_kr (fun v t => mc_WP (192, 24, [.ref r, .int x1, .int (rl_cnt x2)], v.toList ++ [], t, (0, 0)) Q) (fun k t => Q (.inr k) t)) := by
    intro w hw
    subst hw
    exact cc_fits hr g1 g3 (by omega) (fun b => bk_192_24 hr ⟨Or.inr rfl, h1 (key.mpr b)⟩) (fun b => bk_192_24 hr ⟨Or.inl rfl, h0 (fun q => b (key.mp q))⟩)
  refine bk_192_0 hr ⟨g4, fun a => mc_inl (go _ ?_), fun a => mc_inl (go _ ?_)⟩
  · rw [s1]
    unfold su_n
    by_cases q : x2 = 0
    · rw [if_pos q]
    · have := (c2.2.2.2 q).2
      rw [Int32.le_iff_toInt_le, i3_0] at a
      omega
  · unfold su_n
    by_cases q : x2 = 0
    · have := c2.2.2.1 q
      rw [this] at a
      exact absurd (by decide) a
    · rw [if_neg q]
end
