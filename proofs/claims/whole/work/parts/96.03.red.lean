section
variable {I M : rl_M} {J : Nat → Nat → Int64} {r N n : Nat} {Q : mc_Q} {L : List rd_T} {c : Int32} {rc rn i : Nat}
def gm_P (I : rl_M) (L : List rd_T) (M : rl_M) : Prop := (∀ b, ¬ b = 84 → ¬ b = 100 → ¬ b = 101 → ¬ b = 102 → M b = I b) ∧ (∀ k, ¬ k = 28 → M 84 k = I 84 k) ∧ M 84 28 = Int32.ofNat L.length ∧ ro_is M 100 101 L ∧ ∀ k, k < L.length → M 102 k = 0
theorem gm_one {t x y : Nat} {z3 z4 : Value} (hL : cu_is L t) (ht : t < 64) (hr : gm_P I L M)
    (hk : ∀ M2 z, gm_P I (ad_l L c) M2 → mc_WP (113, 19, [.ref 84, .int (Int32.ofNat y), .int (Int32.ofNat (x + 1)), .int c, z], [], (M2, J, rf_w r, sh_w N, n), (0, 0)) Q) :
    mc_WP (113, 44, [.ref 84, .int (Int32.ofNat y), .int (Int32.ofNat x), .int c, .int 0], [], (M, J, rf_w r, sh_w N, n), (0, 0)) Q := by
  have hlen := cu_len hL (by omega)
  obtain ⟨m1, m2, m3, m4, m5⟩ := hr
  have key : ∀ m i, i + m = L.length → (∀ j, j < i → ∀ b, L[j]? = some b → ¬ b.1 = c) → mc_WP (113, 44, [.ref 84, .int (Int32.ofNat y), .int (Int32.ofNat x), .int c, .int (Int32.ofNat i)], [], (M, J, rf_w r, sh_w N, n), (0, 0)) Q := by
    intro m
    induction m with
    | zero =>
      intro i hi hj
      have hi' : i = L.length := by omega
      subst hi'
      refine bk_113_44 ?_
      rw [m3, on_n (by omega), on_1 (k := x)]
      have hv : vp_in (Int32.ofNat L.length) 64 := on_vp (by omega) (by omega)
      refine ⟨fun _ => ⟨fun q => absurd rfl q, fun _ => ⟨hv, hv, hv, hv, hv, hk _ _ ?_⟩⟩, fun q => absurd ((on_le (by omega) (by omega)).mpr (Nat.le_refl _)) q⟩
      have hnew : ad_l L c = L ++ [(c, 1)] := ad_new fun a ha => by
        obtain ⟨j, hj1, hj2⟩ := List.getElem_of_mem ha
        exact hj j hj1 a (by rw [List.getElem?_eq_getElem hj1, hj2])
      refine ⟨fun b h1 h2 h3 h4 => by rw [up_ne h3, up_ne h1, up_ne h4, up_ne h3, up_ne h2]; exact m1 b h1 h2 h3 h4, fun k hk' => by rw [up_ne (by decide), up_nk hk', up_ne (by decide), up_ne (by decide), up_ne (by decide)]; exact m2 k hk', ?_, ?_, fun k hk' => ?_⟩
      · rw [up_ne (by decide), up_at, hnew, List.length_append, on_1]; rfl
      · rw [hnew]
        refine ro_app m4 (fun k hk' => ?_) ?_
        · rw [up_ne (by decide), up_ne (by decide), up_ne (by decide), up_ne (by decide), up_nk (by omega), up_nk (by omega), up_ne (by decide), up_ne (by decide), up_nk (by omega), up_ne (by decide)]
          exact ⟨rfl, rfl⟩
        · rw [up_ne (by decide), up_ne (by decide), up_ne (by decide), up_ne (by decide), up_at, up_at, up_at]
          exact ⟨rfl, rfl⟩
      · rw [hnew, List.length_append] at hk'
        rw [up_ne (by decide), up_ne (by decide)]
        by_cases q : k = L.length
        · rw [q, up_at]
        · rw [up_nk q, up_ne (by decide), up_ne (by decide)]
          exact m5 k (by simp at hk'; omega)
    | succ m ih =>
      intro i hi hj
      obtain ⟨a, a1, a2, a3, a4⟩ := ro_get (k := i) m4 (by omega)
      refine bk_113_44 ?_
      rw [m3, on_n (k := i) (by omega), a3, a4, on_1 (k := x), on_1 (k := i)]
      have hv : vp_in (Int32.ofNat i) 64 := on_vp (by omega) (by omega)
      refine ⟨fun q => absurd ((on_le (by omega) (by omega)).mp q) (by omega), fun _ => ⟨hv, fun q => ⟨fun _ => ⟨hv, hv, hk _ _ ?_⟩, fun q2 => absurd (fun z => absurd ((on_eq (by omega) (by omega)).mp z) (by omega)) q2⟩, fun q => ih (i + 1) (by omega) (fun j hj' b hb => ?_)⟩⟩
      · have hold := ad_old hj a1 q
        refine ⟨fun b h1 h2 h3 h4 => (up_ne h3).trans (m1 b h1 h2 h3 h4), fun k hk' => by rw [up_ne (by decide)]; exact m2 k hk', ?_, ?_, fun k hk' => ?_⟩
        · rw [up_ne (by decide), m3, hold, List.length_set]
        · rw [hold]
          refine ro_set m4 (by decide) a1 (fun b hb => up_ne hb) (fun k => ?_)
          rw [up_row]
        · rw [hold, List.length_set] at hk'
          rw [up_ne (by decide)]
          exact m5 k hk'
      · by_cases q2 : j = i
        · subst q2; rw [a1] at hb; cases hb; exact q
        · exact hj j (by omega) b hb
  exact key L.length 0 (Nat.zero_add _) (fun j hj => absurd hj (by omega))
theorem cm_gather {W H : Nat} (hW : W ≤ 8) (hH : H ≤ 8) (e2 : I 85 2 = Int32.ofNat W) (e3 : I 85 3 = Int32.ofNat H) (hp : ∀ k, k < 64 → 0 ≤ (I 92 k).toInt ∧ (I 92 k).toInt < 16777216)
    (hk : ∀ M, gm_P I (ry_l (I 92) W H) M → Q (.inl none) (M, J, rf_w r, sh_w N, n)) :
    mc_WP (mc_en 113 [.ref 84] (I, J, rf_w r, sh_w N, n)) Q := by
  refine bk_113_0 ?_
  refine lp_go (C := fun y (i : rl_M × Value × Value × Value) => (113, 7, [.ref 84, .int (Int32.ofNat y), i.2.1, i.2.2.1, i.2.2.2], [], (i.1, J, rf_w r, sh_w N, n), (0, 0))) (P := fun y i => gm_P I (ry_l (I 92) W y) i.1) H (mc_up I 84 28 0, .null, .null, .null) ⟨fun b h1 _ _ _ => up_ne h1, fun k hk' => up_nk hk', (by show mc_up I 84 28 0 84 28 = _; rw [up_at]; rfl), fun k a h => (by cases h), fun k h => absurd h (Nat.not_lt_zero k)⟩ ?_ ?_
  · intro y hy ⟨M, z1, z2, z3⟩ hPy next
    dsimp only at hPy next ⊢
    refine bk_113_7 ?_
    rw [hPy.1 85 (by decide) (by decide) (by decide) (by decide), e3]
    refine ⟨fun q => absurd ((on_le (by omega) (by omega)).mp q) (by omega), fun _ => ?_⟩
    refine lp_go (C := fun x (i : rl_M × Value × Value) => (113, 19, [.ref 84, .int (Int32.ofNat y), .int (Int32.ofNat x), i.2.1, i.2.2], [], (i.1, J, rf_w r, sh_w N, n), (0, 0))) (P := fun x i => gm_P I (rx_l (I 92) y x (ry_l (I 92) W y)) i.1) W (M, z2, z3) hPy ?_ ?_
    · intro x hx ⟨M, z2, z3⟩ hM nx
      dsimp only at hM nx ⊢
      have hcu := rx_cu (y := y) hp (by omega) (ry_cu hp hW y (by omega)) x (by omega) (by have := rxy_le hW hH hy hx; omega)
      refine bk_113_19 ?_
      rw [hM.1 85 (by decide) (by decide) (by decide) (by decide), e2]
      refine ⟨fun q => absurd ((on_le (by omega) (by omega)).mp q) (by omega), fun _ => ?_⟩
      rw [on_8', on_n (by omega), hM.1 92 (by decide) (by decide) (by decide) (by decide)]
      refine ⟨on_vp (by omega) (by omega), ?_⟩
      exact gm_one (z3 := z2) (z4 := z3) hcu (rxy_le hW hH hy hx) hM fun M2 z h2 => nx (M2, _, z) h2
    · intro ⟨M, z2, z3⟩ hM
      dsimp only at hM ⊢
      refine bk_113_19 ?_
      rw [hM.1 85 (by decide) (by decide) (by decide) (by decide), e2, on_1]
      refine ⟨fun _ => next (M, _, _, _) hM, fun q => absurd ((on_le (by omega) (by omega)).mpr (Nat.le_refl _)) q⟩
  · intro ⟨M, z1, z2, z3⟩ hM
    dsimp only at hM ⊢
    refine bk_113_7 ?_
    rw [hM.1 85 (by decide) (by decide) (by decide) (by decide), e3]
    exact ⟨fun _ => hk M hM, fun q => absurd ((on_le (by omega) (by omega)).mpr (Nat.le_refl _)) q⟩
end
