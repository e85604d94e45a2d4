/-! the ends of the law's turns -/
section
variable {I : rl_M} {J : Nat → Nat → Int64} {r N n : Nat} {Q : mc_Q} {x4 x5 y0 : Int32} {x6 : Value} {u w : mc_U}
theorem le_191 (hI : rl_I r I) (ht : I 84 0 = x5) (ho : x5 = 0 → J 105 0 = y0.toInt64) (hu : u.1 + 3 ≤ 601024 ∧ u.2 + 18 ≤ 7293000) (hw : w.1 ≤ u.1 + 3 ∧ w.2 ≤ u.2 + 18) (hn : lw_nx N x4 u Q) : mc_WP (42, 191, [.ref 1, .ref 10, .ref 84, .ref 105, .int x4, .int x5, x6], [.int y0], (I, J, rf_w r, sh_w N, n), w) Q :=
  bk_42_191 ⟨by omega, by omega, fun _ => ⟨fun _ => hn r I J n w _ _ hI hw.1 hw.2, fun q => ⟨fun _ => hn r I J n w _ _ hI hw.1 hw.2, fun z => absurd (by rw [ho (Classical.not_not.mp q)]; exact lg_same _) z⟩⟩, fun q => absurd ht q⟩
theorem le_343 (hI : rl_I r I) (ht : I 84 0 = x5) (ho : x5 = 0 → J 105 0 = y0.toInt64) (hu : u.1 + 3 ≤ 601024 ∧ u.2 + 18 ≤ 7293000) (hw : w.1 ≤ u.1 + 3 ∧ w.2 ≤ u.2 + 18) (hn : lw_nx N x4 u Q) : mc_WP (42, 343, [.ref 1, .ref 10, .ref 84, .ref 105, .int x4, .int x5, x6], [.int y0], (I, J, rf_w r, sh_w N, n), w) Q :=
  bk_42_343 ⟨by omega, by omega, fun _ => ⟨fun _ => hn r I J n w _ _ hI hw.1 hw.2, fun q => ⟨fun _ => hn r I J n w _ _ hI hw.1 hw.2, fun z => absurd (by rw [ho (Classical.not_not.mp q)]; exact lg_same _) z⟩⟩, fun q => absurd ht q⟩
theorem le_609 (hI : rl_I r I) (ht : I 84 0 = x5) (ho : x5 = 0 → J 105 0 = y0.toInt64) (hu : u.1 + 3 ≤ 601024 ∧ u.2 + 18 ≤ 7293000) (hw : w.1 ≤ u.1 + 3 ∧ w.2 ≤ u.2 + 18) (hn : lw_nx N x4 u Q) : mc_WP (42, 609, [.ref 1, .ref 10, .ref 84, .ref 105, .int x4, .int x5, x6], [.int y0], (I, J, rf_w r, sh_w N, n), w) Q :=
  bk_42_609 ⟨by omega, by omega, fun _ => ⟨fun _ => hn r I J n w _ _ hI hw.1 hw.2, fun q => ⟨fun _ => hn r I J n w _ _ hI hw.1 hw.2, fun z => absurd (by rw [ho (Classical.not_not.mp q)]; exact lg_same _) z⟩⟩, fun q => absurd ht q⟩
theorem le_677 (hI : rl_I r I) (ht : I 84 0 = x5) (ho : x5 = 0 → J 105 0 = y0.toInt64) (hu : u.1 + 3 ≤ 601024 ∧ u.2 + 18 ≤ 7293000) (hw : w.1 ≤ u.1 + 3 ∧ w.2 ≤ u.2 + 18) (hn : lw_nx N x4 u Q) : mc_WP (42, 677, [.ref 1, .ref 10, .ref 84, .ref 105, .int x4, .int x5, x6], [.int y0], (I, J, rf_w r, sh_w N, n), w) Q :=
  bk_42_677 ⟨by omega, by omega, fun _ => ⟨fun _ => hn r I J n w _ _ hI hw.1 hw.2, fun q => ⟨fun _ => hn r I J n w _ _ hI hw.1 hw.2, fun z => absurd (by rw [ho (Classical.not_not.mp q)]; exact lg_same _) z⟩⟩, fun q => absurd ht q⟩
theorem le_757 (hI : rl_I r I) (ht : I 84 0 = x5) (ho : x5 = 0 → J 105 0 = y0.toInt64) (hu : u.1 + 3 ≤ 601024 ∧ u.2 + 18 ≤ 7293000) (hw : w.1 ≤ u.1 + 3 ∧ w.2 ≤ u.2 + 18) (hn : lw_nx N x4 u Q) : mc_WP (42, 757, [.ref 1, .ref 10, .ref 84, .ref 105, .int x4, .int x5, x6], [.int y0], (I, J, rf_w r, sh_w N, n), w) Q :=
  bk_42_757 ⟨by omega, by omega, fun _ => ⟨fun _ => hn r I J n w _ _ hI hw.1 hw.2, fun q => ⟨fun _ => hn r I J n w _ _ hI hw.1 hw.2, fun z => absurd (by rw [ho (Classical.not_not.mp q)]; exact lg_same _) z⟩⟩, fun q => absurd ht q⟩
theorem le_958 (hI : rl_I r I) (ht : I 84 0 = x5) (ho : x5 = 0 → J 105 0 = y0.toInt64) (hu : u.1 + 3 ≤ 601024 ∧ u.2 + 18 ≤ 7293000) (hw : w.1 ≤ u.1 + 3 ∧ w.2 ≤ u.2 + 18) (hn : lw_nx N x4 u Q) : mc_WP (42, 958, [.ref 1, .ref 10, .ref 84, .ref 105, .int x4, .int x5, x6], [.int y0], (I, J, rf_w r, sh_w N, n), w) Q :=
  bk_42_958 ⟨by omega, by omega, fun _ => ⟨fun _ => hn r I J n w _ _ hI hw.1 hw.2, fun q => ⟨fun _ => hn r I J n w _ _ hI hw.1 hw.2, fun z => absurd (by rw [ho (Classical.not_not.mp q)]; exact lg_same _) z⟩⟩, fun q => absurd ht q⟩
theorem le_1014 (hI : rl_I r I) (ht : I 84 0 = x5) (ho : x5 = 0 → J 105 0 = y0.toInt64) (hu : u.1 + 3 ≤ 601024 ∧ u.2 + 18 ≤ 7293000) (hw : w.1 ≤ u.1 + 3 ∧ w.2 ≤ u.2 + 18) (hn : lw_nx N x4 u Q) : mc_WP (42, 1014, [.ref 1, .ref 10, .ref 84, .ref 105, .int x4, .int x5, x6], [.int y0], (I, J, rf_w r, sh_w N, n), w) Q :=
  bk_42_1014 ⟨by omega, by omega, fun _ => ⟨fun _ => hn r I J n w _ _ hI hw.1 hw.2, fun q => ⟨fun _ => hn r I J n w _ _ hI hw.1 hw.2, fun z => absurd (by rw [ho (Classical.not_not.mp q)]; exact lg_same _) z⟩⟩, fun q => absurd ht q⟩
theorem le_1082 (hI : rl_I r I) (ht : I 84 0 = x5) (ho : x5 = 0 → J 105 0 = y0.toInt64) (hu : u.1 + 3 ≤ 601024 ∧ u.2 + 18 ≤ 7293000) (hw : w.1 ≤ u.1 + 3 ∧ w.2 ≤ u.2 + 18) (hn : lw_nx N x4 u Q) : mc_WP (42, 1082, [.ref 1, .ref 10, .ref 84, .ref 105, .int x4, .int x5, x6], [.int y0], (I, J, rf_w r, sh_w N, n), w) Q :=
  bk_42_1082 ⟨by omega, by omega, fun _ => ⟨fun _ => hn r I J n w _ _ hI hw.1 hw.2, fun q => ⟨fun _ => hn r I J n w _ _ hI hw.1 hw.2, fun z => absurd (by rw [ho (Classical.not_not.mp q)]; exact lg_same _) z⟩⟩, fun q => absurd ht q⟩
theorem le_1210 (hI : rl_I r I) (ht : I 84 0 = x5) (ho : x5 = 0 → J 105 0 = y0.toInt64) (hu : u.1 + 3 ≤ 601024 ∧ u.2 + 18 ≤ 7293000) (hw : w.1 ≤ u.1 + 3 ∧ w.2 ≤ u.2 + 18) (hn : lw_nx N x4 u Q) : mc_WP (42, 1210, [.ref 1, .ref 10, .ref 84, .ref 105, .int x4, .int x5, x6], [.int y0], (I, J, rf_w r, sh_w N, n), w) Q :=
  bk_42_1210 ⟨by omega, by omega, fun _ => ⟨fun _ => hn r I J n w _ _ hI hw.1 hw.2, fun q => ⟨fun _ => hn r I J n w _ _ hI hw.1 hw.2, fun z => absurd (by rw [ho (Classical.not_not.mp q)]; exact lg_same _) z⟩⟩, fun q => absurd ht q⟩
theorem le_270 (hI : rl_I r I) (ht : I 84 0 = x5) (hu : u.1 + 3 ≤ 601024 ∧ u.2 + 18 ≤ 7293000) (hw : w.1 ≤ u.1 + 3 ∧ w.2 ≤ u.2 + 18) (hn : lw_nx N x4 u Q) : mc_WP (42, 270, [.ref 1, .ref 10, .ref 84, .ref 105, .int x4, .int x5, x6], [], (I, J, rf_w r, sh_w N, n), w) Q :=
  bk_42_270 ⟨by omega, by omega, fun _ => hn r I J n w _ _ hI hw.1 hw.2, fun q => absurd ht q⟩
theorem le_434 (hI : rl_I r I) (ht : I 84 0 = x5) (hu : u.1 + 3 ≤ 601024 ∧ u.2 + 18 ≤ 7293000) (hw : w.1 ≤ u.1 + 3 ∧ w.2 ≤ u.2 + 18) (hn : lw_nx N x4 u Q) : mc_WP (42, 434, [.ref 1, .ref 10, .ref 84, .ref 105, .int x4, .int x5, x6], [], (I, J, rf_w r, sh_w N, n), w) Q :=
  bk_42_434 ⟨by omega, by omega, fun _ => hn r I J n w _ _ hI hw.1 hw.2, fun q => absurd ht q⟩
theorem le_534 (hI : rl_I r I) (ht : I 84 0 = x5) (hu : u.1 + 3 ≤ 601024 ∧ u.2 + 18 ≤ 7293000) (hw : w.1 ≤ u.1 + 3 ∧ w.2 ≤ u.2 + 18) (hn : lw_nx N x4 u Q) : mc_WP (42, 534, [.ref 1, .ref 10, .ref 84, .ref 105, .int x4, .int x5, x6], [], (I, J, rf_w r, sh_w N, n), w) Q :=
  bk_42_534 ⟨by omega, by omega, fun _ => hn r I J n w _ _ hI hw.1 hw.2, fun q => absurd ht q⟩
theorem le_1161 (hI : rl_I r I) (ht : I 84 0 = x5) (hu : u.1 + 3 ≤ 601024 ∧ u.2 + 18 ≤ 7293000) (hw : w.1 ≤ u.1 + 3 ∧ w.2 ≤ u.2 + 18) (hn : lw_nx N x4 u Q) : mc_WP (42, 1161, [.ref 1, .ref 10, .ref 84, .ref 105, .int x4, .int x5, x6], [], (I, J, rf_w r, sh_w N, n), w) Q :=
  bk_42_1161 ⟨by omega, by omega, fun _ => hn r I J n w _ _ hI hw.1 hw.2, fun q => absurd ht q⟩
/-- the memory changes only where the relation doesn't look -/
theorem rl_I.quiet {I I' : rl_M} (h : rl_I r I) (h1 : I' 84 1 = I 84 1) (h2 : I' 84 10 = I 84 10) (h3 : ∀ b, b ∈ [12, 54, 55, 75, 85, 86, 87, 88, 91, 92, 93] → I' b = I b) (h4 : ∀ o, o < 20 → I' (r + o) = I (r + o)) (h5 : ∀ p, is_P p → I' p 1 = I p 1) (h6 : ∀ a, 2 ≤ a → a ≤ 4 → I' a = I a) : rl_I r I' := by
  obtain ⟨hr, hR, hB, hP, hC, hK⟩ := h
  have e : rl_v r I' = rl_v r I := by
    funext o
    unfold rl_v
    split
    · exact h4 _ (by assumption)
    · rfl
  refine ⟨hr, ?_, ?_, ?_, ?_, ?_⟩
  · rw [e, h1, h3 85 (by decide), h3 86 (by decide), h3 87 (by decide)]; exact hR
  · rw [h2, h3 54 (by decide), h3 55 (by decide), h3 91 (by decide)]; exact hB
  · rw [h3 75 (by decide), h3 92 (by decide)]; exact hP
  · rw [h3 12 (by decide), h3 93 (by decide)]; exact hC
  · refine ⟨fun p hp => ?_, fun a h1' h2' => ?_, fun k h1' => ?_⟩
    · rw [h5 p hp]
      exact hK.1 p hp
    · rw [h6 a h1' h2']
      exact hK.2.1 a h1' h2'
    · rw [h3 88 (by decide)]
      exact hK.2.2 k h1'
theorem rl_I.thr {v : Int32} (h : rl_I r I) : rl_I r (mc_up I 84 0 v) := by
  refine h.quiet (up_nk (by decide)) (up_nk (by decide)) (fun b hb => ?_) (fun o ho => ?_) (fun p hp => by rw [up_ne (fun q => by subst q; revert hp; decide)]) (fun a h1 h2 => up_ne (by omega))
  · exact up_ne (fun q => by subst q; revert hb; decide)
  · exact up_ne (by have := is_Rb h.1; omega)
end
