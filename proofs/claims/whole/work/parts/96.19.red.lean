/-! reduce: the class's whole way -/
section
variable {I M M' M0 : rl_M} {J : Nat → Nat → Int64} {r N n : Nat} {Q : mc_Q} {m1 m2 : Nat → Int32} {pc : rl_A} {c v mode a x1 x2 x3 x5 : Int32} {nb k b x y W H f a1 : Nat} {E O : rl_A}
theorem nw_eq (h : ∀ j, j < nb → m1 j = m2 j) : nu_w m1 nb mode E c x y = nu_w m2 nb mode E c x y := nr_eq h
theorem nb_eq (h : ∀ j, j < nb → m1 j = m2 j) : nu_b m1 nb mode E c x y = nu_b m2 nb mode E c x y := by
  unfold nu_b
  rw [fs_eq nb 0 (fun j hj => h j (by omega)), nw_eq h]
theorem nE_eq {a : Int} (h1 : 1 ≤ nb) (h : ∀ j, j < nb → m1 j = m2 j) : nu_E m1 nb mode E c x y a W H = nu_E m2 nb mode E c x y a W H := by
  unfold nu_E
  rw [fs_eq nb 0 (fun j hj => h j (by omega)), nw_eq h, h (nu_w m2 nb mode E c x y) (nr_lt h1)]
theorem rwx_eq {s : rl_A × rl_A} (h1 : 1 ≤ nb) (h : ∀ j, j < nb → m1 j = m2 j) : ∀ k, rw_x m1 nb mode pc W H y k s = rw_x m2 nb mode pc W H y k s
  | 0 => rfl
  | k + 1 => by
    unfold rw_x
    rw [rwx_eq h1 h k, nE_eq h1 h, nb_eq h]
theorem rwy_eq (h1 : 1 ≤ nb) (h : ∀ j, j < nb → m1 j = m2 j) : ∀ y, rw_y m1 nb mode pc W H y = rw_y m2 nb mode pc W H y
  | 0 => rfl
  | y + 1 => by
    unfold rw_y
    rw [rwy_eq h1 h y, rwx_eq h1 h]
/-- what the class makes of a fresh frame -/
def cr_K (M M' : rl_M) (a1 nb : Nat) (mn : Nat → Int32) (O : rl_A) : Prop := (∀ b, ¬ (a1 + 1 ≤ b ∧ b ≤ a1 + 3) → ¬ (76 ≤ b ∧ b ≤ 83) → M' b = M b) ∧ M' (a1 + 2) 1 = Int32.ofNat (2 ^ pb_v nb) ∧ (∀ k, ¬ k = 1 → M' (a1 + 2) k = M (a1 + 2) k) ∧ (∀ k, k < 16 → M' (a1 + 3) k = if k < nb then mn k else 0) ∧ ∀ j, j < 64 → M' (a1 + 1) j = O j
theorem cc_bring {L : List rd_T} {most : Nat} (hF : is_F a1) (h8 : (1 ≤ W ∧ W ≤ 8) ∧ 1 ≤ H ∧ H ≤ 8) (hW : M a1 4 = Int32.ofNat W) (hH : M a1 5 = Int32.ofNat H) (hP : rb_P (M 75) (M 92)) (hL : L = ry_l (M 92) W H) (hG : rd_G L) (h1 : 1 ≤ most) (hm : most ≤ 16) (hK4 : M 4 = st_w 4) (p0 : M (a1 + 2) 1 = 0) (c0 : ∀ k, k < 16 → M (a1 + 3) k = 0) (x0 : ∀ j, j < 64 → M (a1 + 1) j = 0)
    (hk : ∀ M' nb sq, rd_run L nb sq → (1 ≤ nb ∧ nb ≤ most) → (nb = most ∨ (sq nb (rd_w (sq nb) nb)).length < 2) → cr_K M M' a1 nb (fun k => me_v (sq nb k)) (rw_y (fun k => me_v (sq nb k)) nb mode (M 92) W H H).2 → Q (.inl (some (.int (Int32.ofNat nb)))) (M', J, rf_w r, sh_w N, n)) :
    mc_WP (mc_en 168 [.ref 76, .ref a1, .int (Int32.ofNat most), .int mode] (M, J, rf_w r, sh_w N, n)) Q := by
  obtain ⟨-, -, n3⟩ := cs_ne hF
  have hPp : is_P (a1 + 2) := (wd_F (r := r) (N := N) hF).2.2.2.2.2
  refine bk_168_0 hF ?_
  have u1 : mc_up M 76 10 mode a1 = M a1 := up_ne (by omega)
  rw [u1, hW, hH]
  refine mc_inl ?_
  have u75 : mc_up M 76 10 mode 75 = M 75 := up_ne (by decide)
  have u92 : mc_up M 76 10 mode 92 = M 92 := up_ne (by decide)
  refine cc_gather (I := mc_up M 76 10 mode) (by omega) (by omega) (by rw [u75, u92]; exact hP) fun M1 r1 s1 d1 o1 => bk_168_17 hF (mc_inl ?_)
  rw [u92, ← hL] at d1 o1
  refine cc_boxes hG h1 hm d1 o1 fun M2 nb sq hrun g1 g2 hend hcb hcK => bk_168_22 hF (mc_inl ?_)
  have hgood := rd_good hG hrun nb g1 (Nat.le_refl _)
  -- rows so far
  have f2 : ∀ b, ¬ (76 ≤ b ∧ b ≤ 83) → M2 b = M b := fun b hb => by rw [hcK.1 b (by omega) (by omega) (by omega) (by omega) (by omega), r1 b (by omega) (by omega) (by omega), up_ne (by omega)]
  have m10 : M2 76 10 = mode := by rw [hcK.2 10 (by decide), s1 10 (by decide), up_at]
  obtain ⟨b9, b16, st, ln, bb, bd⟩ := hcb
  rw [b9]
  obtain ⟨pb1, pb2, pb3, pb4, pb5⟩ := pb_b (nb := nb) (by omega)
  refine cc_pbits (by omega) (bk_168_34 hF hPp ?_)
  rw [pb3]
  refine mc_inl ?_
  have p2 : M2 (a1 + 2) 1 = 0 := by rw [f2 _ (by omega)]; exact p0
  have pt : (Int32.ofNat (2 ^ pb_v nb)).toInt = (2 ^ pb_v nb : Nat) := on_t (by omega)
  refine cc_resize hPp (by rw [pt]; omega) (by rw [p2]; decide) ?_
  refine bk_168_38 hF ?_
  rw [p2]
  generalize hM3 : mc_up (mc_fl M2 (a1 + 2 + 1) (rz_s (Int32.ofNat (2 ^ pb_v nb)) 0) (16 - rz_s (Int32.ofNat (2 ^ pb_v nb)) 0) 0) (a1 + 2) 1 (Int32.ofNat (2 ^ pb_v nb)) = M3
  have f3 : ∀ b, ¬ b = a1 + 2 → ¬ b = a1 + 3 → M3 b = M2 b := fun b q1 q2 => by rw [← hM3, up_ne q1, fl_ne (by omega)]
  have q3 : M3 (a1 + 2) 1 = Int32.ofNat (2 ^ pb_v nb) := by rw [← hM3, up_at]
  have q3' : ∀ k, ¬ k = 1 → M3 (a1 + 2) k = M (a1 + 2) k := fun k hk' => by rw [← hM3, up_nk hk', fl_ne (by omega), f2 _ (by omega)]
  have z3 : ∀ k, k < 16 → M3 (a1 + 3) k = 0 := fun k hk' => by
    rw [← hM3, up_ne (by omega)]
    show mc_fl M2 (a1 + 2 + 1) _ _ 0 (a1 + 2 + 1) k = 0
    unfold mc_fl
    split
    · rfl
    · show M2 (a1 + 3) k = 0
      rw [f2 _ (by omega)]; exact c0 k hk'
  -- the means
  refine lp_go (C := fun i (M4 : rl_M) => (168, 41, [.ref 76, .ref a1, .int (Int32.ofNat most), .int mode, .int (Int32.ofNat i)], [], (M4, J, rf_w r, sh_w N, n), (0, 0))) (P := fun i M4 => (∀ b, ¬ b = 81 → ¬ b = a1 + 3 → M4 b = M3 b) ∧ (∀ k, k < i → M4 81 k = me_v (sq nb k)) ∧ ∀ k, k < 16 → M4 (a1 + 3) k = if k < i then me_v (sq nb k) else 0) nb M3 ⟨fun _ _ _ => rfl, fun k hk' => absurd hk' (by omega), fun k hk' => by rw [if_neg (by omega)]; exact z3 k hk'⟩ ?_ ?_
  · intro i hi M4 ⟨h4, h81, h3r⟩ next
    try dsimp only at h4 h81 h3r next ⊢
    have g4 : ∀ b, 76 ≤ b → b ≤ 80 → M4 b = M2 b := fun b q1 q2 => by rw [h4 b (by omega) (by omega), f3 b (by omega) (by omega)]
    obtain ⟨c1, c2⟩ := bb i hi
    have c1' : bx_at M4 i (st i) (ln i) := by unfold bx_at; rw [g4 79 (by decide) (by decide), g4 80 (by decide) (by decide)]; exact c1
    have c2' : sg_l M4 (st i) (ln i) = sq nb i := Eq.trans (sg_eq fun j _ => by rw [g4 77 (by decide) (by decide), g4 78 (by decide) (by decide)]; exact ⟨rfl, rfl⟩) c2
    refine bk_168_41 hF ?_
    rw [g4 76 (by decide) (by decide), b9]
    refine ⟨fun q => absurd ((on_le (by omega) (by omega)).mp q) (by omega), fun _ => mc_inl ?_⟩
    refine cc_mean (by omega) c1' (by rw [c2']; exact hgood i hi) ?_
    rw [c2']
    have v16 : vp_in (Int32.ofNat i) 16 := on_vp (by omega) (by omega)
    refine bk_168_62 (b0z := 16) hF rfl (by decide) ?_
    rw [on_n (by omega), up_at, bn_msk _ (me_b (hgood i hi)), on_1]
    refine ⟨v16, v16, v16, next _ ⟨fun b q1 q2 => ?_, fun k hk' => ?_, fun k hk' => ?_⟩⟩
    · rw [up_ne (show ¬ b = a1 + 2 + 1 by omega), up_ne q1]; exact h4 b q1 q2
    · rw [up_ne (show ¬ 81 = a1 + 2 + 1 by omega), up_row]
      dsimp only
      by_cases q : k = i
      · rw [if_pos q, q]
      · rw [if_neg q]; exact h81 k (by omega)
    · show mc_up (mc_up M4 81 i _) (a1 + 2 + 1) i _ (a1 + 2 + 1) k = _
      rw [up_row]
      dsimp only
      rw [up_ne (show ¬ a1 + 2 + 1 = 81 by omega)]
      by_cases q : k = i
      · rw [if_pos q, if_pos (by omega), q]
      · rw [if_neg q]
        show M4 (a1 + 3) k = _
        rw [h3r k hk']
        by_cases q2 : k < i
        · rw [if_pos q2, if_pos (by omega)]
        · rw [if_neg q2, if_neg (by omega)]
  · intro M4 ⟨h4, h81, h3r⟩
    try dsimp only at h4 h81 h3r ⊢
    have g4 : ∀ b, 76 ≤ b → b ≤ 80 → M4 b = M2 b := fun b q1 q2 => by rw [h4 b (by omega) (by omega), f3 b (by omega) (by omega)]
    refine bk_168_41 hF ?_
    rw [g4 76 (by decide) (by decide), b9]
    refine ⟨fun _ => mc_inl ?_, fun q => absurd ((on_le (by omega) (by omega)).mpr (Nat.le_refl _)) q⟩
    refine cc_fill (z := 192) rfl (by decide) (by decide) (bk_168_93 hF ?_)
    generalize hM5 : mc_fl M4 82 0 192 0 = M5
    have g5 : ∀ b, ¬ b = 82 → M5 b = M4 b := fun b q => by rw [← hM5, fl_ne q]
    have e5 : ∀ k, k < 192 → M5 82 k = 0 := fun k hk' => by rw [← hM5]; exact fl_in (by omega)
    have far : ∀ b, ¬ (a1 + 1 ≤ b ∧ b ≤ a1 + 3) → ¬ (76 ≤ b ∧ b ≤ 83) → M5 b = M b := fun b q1 q2 => by rw [g5 b (by omega), h4 b (by omega) (by omega), f3 b (by omega) (by omega), f2 b q2]
    have px5 : ∀ j, j < 64 → M5 (a1 + 1) j = 0 := fun j hj => by rw [g5 _ (by omega), h4 _ (by omega) (by omega), f3 _ (by omega) (by omega), f2 _ (by omega)]; exact x0 j hj
    have hh : cs_H M5 a1 nb mode (M 92) W H := by
      refine ⟨hF, by omega, by omega, ?_, ?_, ?_, ?_, ?_, fun k hk' => ?_⟩
      · rw [far a1 (by omega) (by omega)]; exact hW
      · rw [far a1 (by omega) (by omega)]; exact hH
      · rw [g5 76 (by decide), g4 76 (by decide) (by decide)]; exact b9
      · rw [g5 76 (by decide), g4 76 (by decide) (by decide)]; exact m10
      · rw [far 4 (by omega) (by omega)]; exact hK4
      · rw [far 75 (by omega) (by omega)]; exact (hP k hk').1
    have mne : ∀ j, j < nb → M5 81 j = me_v (sq nb j) := fun j hj => by rw [g5 81 (by decide)]; exact h81 j hj
    refine lp_go (C := fun y (M6 : rl_M) => (168, 96, [.ref 76, .ref a1, .int (Int32.ofNat most), .int mode, .int (Int32.ofNat y)], [], (M6, J, rf_w r, sh_w N, n), (0, 0))) (P := fun y M6 => cs_P M5 a1 (rw_y (M5 81) nb mode (M 92) W H y) M6) H M5 ⟨fun _ _ _ _ => rfl, e5, px5⟩ ?_ ?_
    · intro y hy M6 hP6 next
      try dsimp only at hP6 next ⊢
      have gH : M6 a1 5 = Int32.ofNat H := by rw [hP6.1 a1 (by omega) (by omega) (by omega), far a1 (by omega) (by omega)]; exact hH
      refine bk_168_96 hF ?_
      rw [gH]
      refine ⟨fun q => absurd ((on_le (by omega) (by omega)).mp q) (by omega), fun _ => mc_inl ?_⟩
      refine cc_row hh hy hP6 fun M7 hP7 => bk_168_112 hF ?_
      rw [on_1]
      exact next M7 hP7
    · intro M6 hP6
      try dsimp only at hP6 ⊢
      have gH : M6 a1 5 = Int32.ofNat H := by rw [hP6.1 a1 (by omega) (by omega) (by omega), far a1 (by omega) (by omega)]; exact hH
      have g9 : M6 76 9 = Int32.ofNat nb := by rw [hP6.1 76 (by omega) (by omega) (by omega), g5 76 (by decide), g4 76 (by decide) (by decide)]; exact b9
      refine bk_168_96 hF ?_
      rw [gH, g9]
      refine ⟨fun _ => hk M6 nb sq hrun ⟨g1, g2⟩ hend ⟨fun b q1 q2 => ?_, ?_, fun k hk' => ?_, fun k hk' => ?_, fun j hj => ?_⟩, fun q => absurd ((on_le (by omega) (by omega)).mpr (Nat.le_refl _)) q⟩
      · rw [hP6.1 b (by omega) (by omega) (by omega)]; exact far b q1 q2
      · rw [hP6.1 _ (by omega) (by omega) (by omega), g5 _ (by omega), h4 _ (by omega) (by omega)]; exact q3
      · rw [hP6.1 _ (by omega) (by omega) (by omega), g5 _ (by omega), h4 _ (by omega) (by omega)]; exact q3' k hk'
      · rw [hP6.1 _ (by omega) (by omega) (by omega), g5 _ (by omega)]; exact h3r k hk'
      · rw [hP6.2.2 j hj, rwy_eq g1 mne]
end
