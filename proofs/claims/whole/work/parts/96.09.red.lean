section
variable {I M M' : rl_M} {J : Nat → Nat → Int64} {r N n : Nat} {Q : mc_Q} {L l : List rd_T} {c v x u : Int32} {m p b d nb k i w : Nat} {bx : Nat → List rd_T}
theorem fl_cg : ∀ (d : Nat), (∀ k, k < d → (M' 102 k = u ↔ M 102 k = v)) → (∀ k, k < d → M' 100 k = M 100 k ∧ M' 101 k = M 101 k) → fl_l M' d u = fl_l M d v
  | 0, _, _ => rfl
  | d + 1, h1, h2 => by
    have ih := fl_cg d (fun k hk => h1 k (by omega)) (fun k hk => h2 k (by omega))
    by_cases q : M 102 d = v
    · rw [fl_s1 q, fl_s1 ((h1 d (by omega)).mpr q), ih, (h2 d (by omega)).1, (h2 d (by omega)).2]
    · rw [fl_s0 q, fl_s0 (fun z => q ((h1 d (by omega)).mp z)), ih]
/-- one item gets another label -/
theorem fl_up (hx : ¬ x = v) (hi : M 102 i = v) : ∀ (d : Nat), (i < d → (fl_l M d v).Perm ((M 100 i, M 101 i) :: fl_l (mc_up M 102 i x) d v) ∧ (fl_l (mc_up M 102 i x) d x).Perm ((M 100 i, M 101 i) :: fl_l M d x)) ∧ (d ≤ i → fl_l (mc_up M 102 i x) d v = fl_l M d v ∧ fl_l (mc_up M 102 i x) d x = fl_l M d x)
  | 0 => ⟨fun h => absurd h (by omega), fun _ => ⟨rfl, rfl⟩⟩
  | d + 1 => by
    obtain ⟨h1, h2⟩ := fl_up hx hi d
    have r100 : mc_up M 102 i x 100 = M 100 := up_ne (by decide)
    have r101 : mc_up M 102 i x 101 = M 101 := up_ne (by decide)
    constructor
    · intro h
      by_cases q : i = d
      · obtain ⟨e1, e2⟩ := h2 (by omega)
        subst q
        rw [fl_s1 hi, fl_s0 (M := mc_up M 102 i x) (by rw [up_at]; exact hx), e1, fl_s1 (M := mc_up M 102 i x) (by rw [up_at]), fl_s0 (M := M) (v := x) (by rw [hi]; exact fun z => hx z.symm), e2, r100, r101]
        exact ⟨List.perm_append_singleton _ _, List.perm_append_singleton _ _⟩
      · obtain ⟨e1, e2⟩ := h1 (by omega)
        have hd : mc_up M 102 i x 102 d = M 102 d := up_nk (fun z => q z.symm)
        constructor
        · by_cases q2 : M 102 d = v
          · rw [fl_s1 q2, fl_s1 (M := mc_up M 102 i x) (by rw [hd]; exact q2), r100, r101]
            exact List.Perm.append_right _ e1
          · rw [fl_s0 q2, fl_s0 (M := mc_up M 102 i x) (by rw [hd]; exact q2)]
            exact e1
        · by_cases q2 : M 102 d = x
          · rw [fl_s1 q2, fl_s1 (M := mc_up M 102 i x) (by rw [hd]; exact q2), r100, r101]
            exact List.Perm.append_right _ e2
          · rw [fl_s0 q2, fl_s0 (M := mc_up M 102 i x) (by rw [hd]; exact q2)]
            exact e2
    · intro h
      obtain ⟨e1, e2⟩ := h2 (by omega)
      have hd : mc_up M 102 i x 102 d = M 102 d := up_nk (by omega)
      constructor
      · by_cases q2 : M 102 d = v
        · rw [fl_s1 q2, fl_s1 (M := mc_up M 102 i x) (by rw [hd]; exact q2), r100, r101, e1]
        · rw [fl_s0 q2, fl_s0 (M := mc_up M 102 i x) (by rw [hd]; exact q2), e1]
      · by_cases q2 : M 102 d = x
        · rw [fl_s1 q2, fl_s1 (M := mc_up M 102 i x) (by rw [hd]; exact q2), r100, r101, e2]
        · rw [fl_s0 q2, fl_s0 (M := mc_up M 102 i x) (by rw [hd]; exact q2), e2]
theorem fl_ot (h1 : ¬ u = v) (h2 : ¬ u = x) (hi : M 102 i = v) : fl_l (mc_up M 102 i x) d u = fl_l M d u := by
  refine fl_cg d (fun k _ => ?_) (fun k _ => by rw [up_ne (by decide), up_ne (by decide)]; exact ⟨rfl, rfl⟩)
  by_cases q : k = i
  · subst q
    rw [up_at, hi]
    exact ⟨fun z => absurd z.symm h2, fun z => absurd z.symm h1⟩
  · rw [up_nk q]
/-- the smallest key among those so far -/
def be_P (M : rl_M) (v : Int32) (p k : Nat) (bst : Int32) : Prop := (bst = -1 ∧ ∀ j, j < k → ¬ M 102 j = v) ∨ ∃ i, i < k ∧ bst = Int32.ofNat i ∧ M 102 i = v ∧ ∀ j, j < k → M 102 j = v → ky_v p (M 100 i) ≤ ky_v p (M 100 j)
theorem cm_best {x2 x4 x5 x6 x7 : Int32} {z10 : Value} (hd : M 84 28 = Int32.ofNat d) (h64 : d ≤ 64) (hp : p < 3) (hc : ∀ k, k < d → M 102 k = v → 0 ≤ (M 100 k).toInt ∧ (M 100 k).toInt < 16777216) (hne : ∃ k, k < d ∧ M 102 k = v)
    (hk : ∀ i z9 z10, i < d → M 102 i = v → (∀ j, j < d → M 102 j = v → ky_v p (M 100 i) ≤ ky_v p (M 100 j)) → mc_WP (116, 149, [.ref 84, .int v, .int x2, .int (Int32.ofNat p), .int x4, .int x5, .int (x6 + M 101 i), .int (x7 + 1), .int (Int32.ofNat i), z9, z10], [], (mc_up M 102 i 100, J, rf_w r, sh_w N, n), (0, 0)) Q) :
    mc_WP (116, 173, [.ref 84, .int v, .int x2, .int (Int32.ofNat p), .int x4, .int x5, .int x6, .int x7, .int (-1), .int 0, z10], [], (M, J, rf_w r, sh_w N, n), (0, 0)) Q := by
  refine lp_go (C := fun k (i : Int32 × Value) => (116, 173, [.ref 84, .int v, .int x2, .int (Int32.ofNat p), .int x4, .int x5, .int x6, .int x7, .int i.1, .int (Int32.ofNat k), i.2], [], (M, J, rf_w r, sh_w N, n), (0, 0))) (P := fun k i => be_P M v p k i.1) d ((-1 : Int32), z10) (Or.inl ⟨rfl, fun j hj => absurd hj (by omega)⟩) ?_ ?_
  · intro k hk' ⟨bst, z⟩ hP next
    dsimp only at hP next ⊢
    have hv : vp_in (Int32.ofNat k) 64 := on_vp (by omega) (by omega)
    refine bk_116_173 ?_
    rw [hd, on_n (k := k) (by omega), on_1 (k := k)]
    refine ⟨fun q => absurd ((on_le (by omega) (by omega)).mp q) (by omega), fun _ => ?_⟩
    rcases hP with ⟨b1, b2⟩ | ⟨i, b1, b2, b3, b4⟩
    · subst b1
      refine ⟨fun _ => ⟨hv, fun q => next (_, _) (Or.inl ⟨rfl, fun j hj => ?_⟩), fun q => next (_, _) (Or.inr ⟨k, by omega, rfl, Classical.not_not.mp q, fun j hj hj2 => ?_⟩)⟩, fun q => absurd (by decide) q⟩
      · by_cases q2 : j = k
        · subst q2; exact q
        · exact b2 j (by omega)
      · by_cases q2 : j = k
        · subst q2; exact Int.le_refl _
        · exact absurd hj2 (b2 j (by omega))
    · subst b2
      have hvi : vp_in (Int32.ofNat i) 64 := on_vp (by omega) (by omega)
      rw [on_n (k := i) (by omega), pt_m (pn_3 hp), pt_m (pn_3 hp)]
      have ci := hc i (by omega) b3
      have keep : ∀ z, (M 102 k = v → ky_v p (M 100 i) ≤ ky_v p (M 100 k)) → mc_WP (116, 173, [.ref 84, .int v, .int x2, .int (Int32.ofNat p), .int x4, .int x5, .int x6, .int x7, .int (Int32.ofNat i), .int (Int32.ofNat (k + 1)), z], [], (M, J, rf_w r, sh_w N, n), (0, 0)) Q := fun z hz => next (_, z) (Or.inr ⟨i, by omega, rfl, b3, fun j hj hj2 => by
        by_cases q2 : j = k
        · subst q2; exact hz hj2
        · exact b4 j (by omega) hj2⟩)
      have take : ∀ z, M 102 k = v → ky_v p (M 100 k) < ky_v p (M 100 i) → mc_WP (116, 173, [.ref 84, .int v, .int x2, .int (Int32.ofNat p), .int x4, .int x5, .int x6, .int x7, .int (Int32.ofNat k), .int (Int32.ofNat (k + 1)), z], [], (M, J, rf_w r, sh_w N, n), (0, 0)) Q := fun z hz hlt => next (_, z) (Or.inr ⟨k, by omega, rfl, hz, fun j hj hj2 => by
        by_cases q2 : j = k
        · subst q2; exact Int.le_refl _
        · have := b4 j (by omega) hj2; omega⟩)
      have lt : M 102 k = v → (ky_v p (M 100 k) < ky_v p (M 100 i) ↔ (pt_v (M 100 k) (Int32.ofNat p) < pt_v (M 100 i) (Int32.ofNat p) ∨ (pt_v (M 100 k) (Int32.ofNat p) = pt_v (M 100 i) (Int32.ofNat p) ∧ M 100 k < M 100 i))) := fun hz => ky_lt (hc k (by omega) hz) ci
      refine ⟨fun q => absurd q ?_, fun _ => ⟨hv, hvi, fun c1 => ⟨hv, fun q => keep _ (fun z => absurd z q), fun q => take _ (Classical.not_not.mp q) ((lt (Classical.not_not.mp q)).mpr (Or.inl c1))⟩, fun c1 => ⟨hv, hvi, fun c2 => ⟨hv, fun q => keep _ (fun z => absurd z q), fun q => keep _ (fun z => ?_)⟩, fun c2 => ⟨hv, hvi, fun c3 => ⟨hv, fun q => keep _ (fun z => absurd z q), fun q => keep _ (fun z => ?_)⟩, fun c3 => ⟨hv, fun q => keep _ (fun z => absurd z q), fun q => take _ (Classical.not_not.mp q) ((lt (Classical.not_not.mp q)).mpr (Or.inr ⟨Classical.not_not.mp c2, ?_⟩))⟩⟩⟩⟩⟩
      · rw [Int32.lt_iff_toInt_lt, on_t (by omega), i3_0]; omega
      · refine Int.not_lt.mp fun y => ?_
        rcases (lt z).mp y with y | y
        · exact c1 y
        · exact c2 y.1
      · refine Int.not_lt.mp fun y => ?_
        rcases (lt z).mp y with y | y
        · exact c1 y
        · have y2 := y.2
          rw [Int32.lt_iff_toInt_lt] at y2
          rw [Int32.le_iff_toInt_le] at c3
          omega
      · rw [Int32.le_iff_toInt_le] at c3
        rw [Int32.lt_iff_toInt_lt]
        omega
  · intro ⟨bst, z⟩ hP
    dsimp only at hP ⊢
    refine bk_116_173 ?_
    rw [hd]
    rcases hP with ⟨b1, b2⟩ | ⟨i, b1, b2, b3, b4⟩
    · obtain ⟨k, k1, k2⟩ := hne
      exact absurd k2 (b2 k k1)
    · subst b2
      rw [on_n (k := i) (by omega)]
      have hvi : vp_in (Int32.ofNat i) 64 := on_vp (by omega) (by omega)
      exact ⟨fun _ => ⟨hvi, hvi, hk i _ _ b1 b3 b4⟩, fun q => absurd ((on_le (by omega) (by omega)).mpr (Nat.le_refl _)) q⟩
end
