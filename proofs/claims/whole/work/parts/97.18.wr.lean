/-! write: every byte is one, and the turn -/
section
variable {I M M' : rl_M} {J : Nat → Nat → Int64} {r N n f : Nat} {Q : mc_Q} {x4 : Int32} {x5 x6 : Value} {u : mc_U} {hs cs ps : rl_A} {c : rl_M} {cnt b clr v : Int32} {L P D : List Int32} {s : List Int32 × Nat × Nat} {fr : Nat}
def by_ok (L : List Int32) : Prop := ∀ a ∈ L, 0 ≤ a.toInt ∧ a.toInt ≤ 255
theorem by_nil : by_ok [] := fun a h => absurd h (by simp)
theorem by_1 (h : 0 ≤ v.toInt ∧ v.toInt ≤ 255) : by_ok [v] := fun a ha => by rw [List.mem_singleton.mp ha]; exact h
theorem by_app (h1 : by_ok L) (h2 : by_ok D) : by_ok (L ++ D) := fun a ha => by
  rcases List.mem_append.mp ha with q | q
  · exact h1 a q
  · exact h2 a q
theorem by_on {k : Nat} (h : k < 256) : by_ok [Int32.ofNat k] := by_1 (by rw [on_t (by omega)]; omega)
theorem by_pl (cs : rl_A) : ∀ k, by_ok (pl_l cs k)
  | 0 => by_nil
  | k + 1 => by_app (by_app (by_app (by_pl cs k) (by_1 (pt_b _ _))) (by_1 (pt_b _ _))) (by_1 (pt_b _ _))
theorem by_pk1 {b : Nat} (h : pk_ok s) (hb : b < 2) (hs : by_ok s.1) : by_ok (pk_1 s b).1 := by
  obtain ⟨D, v, c⟩ := s
  obtain ⟨h1, h2⟩ := h
  dsimp only at h1 h2 hs
  unfold pk_1
  dsimp only
  split
  · dsimp only
    refine by_app hs (by_on ?_)
    have e : c = 7 := by omega
    subst e
    have : (2 : Nat) ^ 7 = 128 := rfl
    rw [this] at h2 ⊢
    have : b * 128 ≤ 1 * 128 := Nat.mul_le_mul_right _ (by omega)
    omega
  · exact hs
theorem by_pkb : ∀ (w c : Nat) (s : List Int32 × Nat × Nat), pk_ok s → by_ok s.1 → by_ok (pk_b s c w).1
  | 0, _, _, _, h => h
  | w + 1, c, s, ho, h => by_pkb w (c / 2) _ (pk_ok1 ho (Nat.mod_lt _ (by decide))) (by_pk1 ho (Nat.mod_lt _ (by decide)) h)
theorem by_wr : ∀ (t : Nat) (Z : lz_Z) (R : List Int32) (s : List Int32 × Nat × Nat), pk_ok s → by_ok s.1 → by_ok (wr_f fr t Z R s).1
  | 0, Z, R, s, h, h2 => by_pkb _ _ _ h h2
  | t + 1, Z, [], s, h, h2 => by_pkb _ _ _ h h2
  | t + 1, Z, x :: R, s, h, h2 => by
    show by_ok ((if _ then _ else _ : List Int32 × Nat × Nat)).1
    split
    · exact by_wr t _ _ _ (pk_bok _ _ _ (pk_bok _ _ _ h)) (by_pkb _ _ _ (pk_bok _ _ _ h) (by_pkb _ _ _ h h2))
    · exact by_wr t _ _ _ (pk_bok _ _ _ h) (by_pkb _ _ _ h h2)
theorem by_D {m : Nat} : by_ok (ff_D m P) := by
  have o0 : pk_ok ([], 0, 0) := ⟨by decide, by decide⟩
  have h1 := pk_bok (gw (2 ^ m) (lz_0 (2 ^ m))) (2 ^ m) _ o0
  have h2 := by_pkb (gw (2 ^ m) (lz_0 (2 ^ m))) (2 ^ m) _ o0 by_nil
  have h3 := by_wr (fr := 2 ^ m) P.length (lz_0 (2 ^ m)) P _ h1 h2
  have h4 := wr_ok (fr := 2 ^ m) P.length (lz_0 (2 ^ m)) P _ h1
  unfold ff_D
  generalize wr_f (2 ^ m) P.length (lz_0 (2 ^ m)) P (pk_b ([], 0, 0) (2 ^ m) (gw (2 ^ m) (lz_0 (2 ^ m)))) = S at *
  obtain ⟨D, v, c⟩ := S
  obtain ⟨h5, h6⟩ := h4
  dsimp only at h3 h5 h6
  unfold fl_s
  dsimp only
  split
  · exact h3
  · refine by_app h3 (by_on ?_)
    have : 2 ^ c ≤ 2 ^ 8 := Nat.pow_le_pow_right (by decide) (by omega)
    have e : (2 : Nat) ^ 8 = 256 := rfl
    omega
theorem by_bs : ∀ (D C B : List Int32), B.length ≤ 20 → by_ok C → by_ok B → by_ok D → by_ok (bs_o (D.foldl bs_p (C, B)))
  | [], C, B, hB, h1, h2, _ => by
    show by_ok (bs_o (C, B))
    by_cases q : B = []
    · rw [q]; exact h1
    · rw [bs_ne q]; exact by_app (by_app h1 (by_on (by omega))) h2
  | d :: D, C, B, hB, h1, h2, h3 => by
    have hd : by_ok [d] := by_1 (h3 d (List.mem_cons_self ..))
    have hD : by_ok D := fun a ha => h3 a (List.mem_cons_of_mem _ ha)
    show by_ok (bs_o (D.foldl bs_p (bs_p (C, B) d)))
    by_cases q : B.length = 20
    · rw [bp_f q]; exact by_bs D _ _ (by show 1 ≤ 20; decide) (by_app (by_app h1 (by_on (by decide))) h2) hd hD
    · rw [bp_n q]; exact by_bs D _ _ (by rw [List.length_append, List.length_singleton]; omega) h1 (by_app h2 hd) hD
theorem by_fd {m : Nat} (hm : m ≤ 4) (h : by_ok L) : by_ok (ff_d m P L) := by_app (by_bs _ _ _ (by decide) (by_app h (by_on (by omega))) by_nil by_D) (by_1 (by decide))
theorem by_fo {b : Nat} {w : Int32} (hb : b ≤ 4) (hw : w = 0 ∨ w = 1) : by_ok [w + fo_b b] := by
  rcases (show b = 0 ∨ b = 1 ∨ b = 2 ∨ b = 3 ∨ b = 4 by omega) with rfl | rfl | rfl | rfl | rfl <;> rcases hw with rfl | rfl <;> exact by_1 (by decide)
theorem by_s4 {w : Int32} (hb : 0 ≤ w.toInt ∧ w.toInt ≤ 3) : by_ok [w + 16] ∧ by_ok [w + 0] := by
  have e : w = 0 ∨ w = 1 ∨ w = 2 ∨ w = 3 := by simp only [← Int32.toInt_inj, Int32.lt_iff_toInt_lt, Int32.le_iff_toInt_le, Int32.toInt_add, Int32.toInt_sub, Int32.toInt_mul, Int.bmod_def, i3_m1, i3_0, i3_1, i3_2, i3_3, i3_4, i3_5, i3_6, i3_7, i3_8, i3_9, i3_10, i3_15, i3_16, i3_19, i3_20, i3_24, i3_31, i3_33, i3_44, i3_45, i3_48, i3_49, i3_59, i3_63, i3_64, i3_80, i3_100, i3_192, i3_200000, i3_254, i3_255, i3_256, i3_800, i3_16777215, i3_16777216]; omega
  rcases e with rfl | rfl | rfl | rfl <;> exact ⟨by_1 (by decide), by_1 (by decide)⟩
theorem by_m1 {w : Int32} (hb : 1 ≤ w.toInt ∧ w.toInt ≤ 4) : by_ok [w - 1] := by
  rcases cnt_c (b := w) (by omega) with rfl | rfl | rfl | rfl | rfl
  · exact absurd hb.1 (by decide)
  all_goals exact by_1 (by decide)
theorem by_wl (hR : rb_R c cnt hs cs ps) : ∀ f : Nat, (f : Int) ≤ cnt.toInt → by_ok (wl_f hs cs ps f)
  | 0, _ => by
    obtain ⟨g1, g2, g3, g4, g5, g6, g7, g8, g9, g10⟩ := hR
    show by_ok (wl_0 hs cs)
    exact by_app (by_app (by_app (by_app (by_app (by_app by_nil (by_1 (by decide))) (by_1 (by decide))) (by_1 (by omega))) (by_1 (by omega))) (by_m1 ⟨g8, g9.1.2⟩)) (by_pl _ _)
  | f + 1, hf => by
    have ih := by_wl hR f (by omega)
    obtain ⟨f1, f2, f3, f4, f5, f6, f7, f8⟩ := fx_ok hR (f := f) (by omega)
    obtain ⟨g1, g2, g3, g4, g5, g6, g7, g8, g9, g10⟩ := hR
    obtain ⟨a1, a2, a3, a4, a5, a6, a7, a8, a9, a10, a11, a12⟩ := g10 f (by omega)
    have p16 := p2_16 f5.2
    rw [f6, on_t (by omega)] at a9
    refine by_fd (by omega) ?_
    refine by_app (by_app (by_app (by_app (by_app (by_app (by_app ?_ (by_1 (by decide))) (by_1 (by omega))) (by_1 (by omega))) (by_1 (by omega))) (by_1 (by omega))) (by_fo f4.2 f3)) (by_pl _ _)
    refine by_app (by_app (by_app (by_app ih (by_1 (by decide))) ?_) (by_1 (by omega))) ?_
    · split
      · exact (by_s4 a7).2
      · exact (by_s4 a7).1
    · split
      · exact by_1 (by decide)
      · rename_i q
        refine by_1 ⟨?_, by omega⟩
        rw [← Int32.toInt_inj, i3_m1] at q
        omega
theorem lc_write (hI : rl_I r I) (hN : N ≤ 3074) (hx : 0 ≤ x4.toInt ∧ x4.toInt + 6 ≤ N) (hu : u.1 + 3 ≤ 601024 ∧ u.2 + 18 ≤ 7293000) (hn : lw_nx N x4 u Q) : mc_WP (42, 790, [.ref 1, .ref 10, .ref 84, .ref 105, .int x4, x5, x6], [], (I, J, rf_w r, sh_w N, n), u) Q := by
  obtain ⟨hr, hR, hB, hP, hC, hK⟩ := hI
  have hb := R_lt hr
  have hcn := i3_tn (I 84 1)
  have hl := wlf_len hR (I 84 1).toNatClampNeg (by have := hR.1; omega)
  have hby := by_app (by_wl hR (I 84 1).toNatClampNeg (by have := hR.1; omega)) (by_1 (v := 59) (by decide))
  have hc4 := hR.1
  refine bk_42_790 ⟨by omega, by omega, mc_inl (bk_45_0 hr (mc_inl ?_))⟩
  generalize hM0 : mc_up I 54 1 0 = M0
  have k0 : ∀ b, ¬ b = 54 → M0 b = I b := fun b q => by rw [← hM0, up_ne q]
  have v0 : rl_v r M0 = rl_v r I := by
    funext o
    unfold rl_v
    split
    · exact k0 _ (by omega)
    · rfl
  refine cc_reel hr (by rw [v0, k0 84 (by decide), k0 85 (by decide), k0 86 (by decide), k0 87 (by decide)]; exact hR) (fun a q1 q2 => by rw [k0 a (by omega)]; exact hK.2.1 a q1 q2) ⟨by rw [← hM0, up_at]; rfl, fun k a q => absurd q (by simp)⟩ fun M1 k1 o1 => bk_45_19 ?_
  rw [k0 84 (by decide), k0 85 (by decide), k0 86 (by decide), k0 87 (by decide)] at o1
  have e1 : ∀ b, (b < 54 ∨ 65 ≤ b) → M1 b = I b := fun b q => (k1 b q).trans (k0 b (by omega))
  refine bk_42_794 ⟨by omega, by omega, mc_inl ?_⟩
  refine cm_reel (c := rl_v r I) (by rw [e1 84 (by decide), e1 85 (by decide), e1 86 (by decide), e1 87 (by decide)]; exact hR) fun M2 k2 o2 => ?_
  rw [e1 84 (by decide), e1 85 (by decide), e1 86 (by decide), e1 87 (by decide)] at o2
  have e2 : ∀ b, ¬ b = 84 → ¬ b = 91 → (b < 54 ∨ (65 ≤ b ∧ b < 95) ∨ 100 ≤ b) → M2 b = I b := fun b q1 q2 q3 => (k2.1 b q1 q2 (by omega)).trans (e1 b (by omega))
  have e54 : M2 54 = M1 54 := k2.1 54 (by decide) (by decide) (by decide)
  have e55 : M2 55 = M1 55 := k2.1 55 (by decide) (by decide) (by decide)
  have v2 : rl_v r M2 = rl_v r I := by
    funext o
    unfold rl_v
    split
    · exact e2 _ (by omega) (by omega) (by omega)
    · rfl
  generalize hW : wl_f (I 85) (I 86) (I 87) (I 84 1).toNatClampNeg ++ [59] = W at *
  have hWl : W.length ≤ 800 := by rw [← hW, List.length_append, List.length_singleton]; omega
  refine bk_42_798 ⟨fun _ => hn r _ _ _ _ _ _ ⟨hr, ?_, ?_, ?_, ?_, ?_, ?_, ?_⟩ (by omega) (by omega), fun q => absurd ?_ q⟩
  · rw [v2, k2.2 1 (by decide) (by decide), e1 84 (by decide), e2 85 (by decide) (by decide) (by decide), e2 86 (by decide) (by decide) (by decide), e2 87 (by decide) (by decide) (by decide)]
    exact hR
  · rw [e54, e55, o1.1, o2.1]
    refine ⟨rfl, by rw [on_t (by omega)]; omega, fun k hk => ?_⟩
    rw [on_t (by omega)] at hk
    have hkl : k < W.length := by omega
    have hq := List.getElem?_eq_getElem hkl
    rw [o1.2 k _ hq, o2.2 k _ hq]
    exact ⟨rfl, hby _ (List.getElem_mem hkl)⟩
  · rw [e2 75 (by decide) (by decide) (by decide), e2 92 (by decide) (by decide) (by decide)]; exact hP
  · rw [e2 12 (by decide) (by decide) (by decide), e2 93 (by decide) (by decide) (by decide)]; exact hC
  · intro p hp
    have hpn : p < 54 := by simp only [is_P, List.mem_cons, List.not_mem_nil, or_false] at hp; omega
    rw [e2 p (by omega) (by omega) (by omega)]
    exact hK.1 p hp
  · intro a q1 q2
    rw [e2 a (by omega) (by omega) (by omega)]
    exact hK.2.1 a q1 q2
  · intro k q1
    rw [e2 88 (by decide) (by decide) (by decide)]
    exact hK.2.2 k q1
  · rw [o1.1, o2.1]
end
