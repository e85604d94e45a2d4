/-! reduce: the reference's whole way -/
section
variable {I M M' M0 : rl_M} {J : Nat → Nat → Int64} {r N n : Nat} {Q : mc_Q} {mn : Nat → Int32} {pc : rl_A} {c v mode a x1 x2 x3 x5 : Int32} {nb k b x y W H f a1 d most : Nat} {E O : rl_A} {L : List rd_T} {sq : Nat → Nat → List rd_T}
def mt_K (M0 M : rl_M) : Prop := (∀ b, ¬ b = 84 → ¬ (100 ≤ b ∧ b ≤ 102) → M b = M0 b) ∧ ∀ k, ¬ k = 28 → ¬ k = 32 → M 84 k = M0 84 k
theorem cm_turns (hL : rd_G L) (hrun : rd_run L nb sq) (hnb : 1 ≤ nb ∧ nb ≤ most) (hm : most ≤ 16) (hend : nb = most ∨ (sq nb (rd_w (sq nb) nb)).length < 2)
    (hk : ∀ M x3, mb_is M d nb (sq nb) → mt_K M0 M → mc_WP (124, 83, [.ref 84, .int (Int32.ofNat most), .int mode, .int x3, .int 0, .null, .null, .null, .null, .null], [], (M, J, rf_w r, sh_w N, n), (0, 0)) Q) :
    ∀ (rem j : Nat) (M : rl_M), 1 ≤ j → j + rem = nb → mb_is M d j (sq j) → mt_K M0 M → mc_WP (124, 60, [.ref 84, .int (Int32.ofNat most), .int mode, .int 1, .null, .null, .null, .null, .null, .null], [], (M, J, rf_w r, sh_w N, n), (0, 0)) Q
  | 0, j, M, h1, hj, hb, hK => by
    have e : j = nb := by omega
    subst e
    have hgood := rd_good hL hrun j h1 (Nat.le_refl _)
    refine bk_124_60 ?_
    rw [hb.2.2.1, on_le (by omega) (by omega)]
    refine ⟨fun _ => hk M _ hb hK, fun q => ⟨fun q2 => absurd q2 (by decide), fun _ => mc_inl ?_⟩⟩
    rcases hend with z | z
    · exact absurd (by omega) q
    · have hw := wb_lt (fun b => ws_l (sq j b)) j h1
      refine cm_widest hb hgood (fun _ => bk_124_76 ?_) (fun z2 => absurd (ws_one (hgood _ hw) z) z2)
      refine bk_124_60 ?_
      rw [hb.2.2.1, on_le (by omega) (by omega)]
      exact ⟨fun _ => hk M _ hb hK, fun q => ⟨fun _ => hk M _ hb hK, fun q2 => absurd rfl q2⟩⟩
  | rem + 1, j, M, h1, hj, hb, hK => by
    have hgood := rd_good hL hrun j h1 (by omega)
    obtain ⟨hl, s, m, p1, p2, p3, p4⟩ := hrun.2 j h1 (by omega)
    have hw := wb_lt (fun b => ws_l (sq j b)) j h1
    refine bk_124_60 ?_
    rw [hb.2.2.1, on_le (by omega) (by omega)]
    refine ⟨fun q => absurd q (by omega), fun q => ⟨fun q2 => absurd q2 (by decide), fun _ => mc_inl ?_⟩⟩
    refine cm_partOne hb hgood (by omega) p1 p2 p3 (fun z => ?_) fun M' h2 h3 h4 => bk_124_76 ?_
    · have := ws_pos (hgood _ hw) hl
      have z' : ws_l (sq j (wb_l (fun b => ws_l (sq j b)) j)) = 0 := z
      omega
    · rw [show rd_nx (sq j) j (rd_w (sq j) j) s m = sq (j + 1) from p4.symm] at h2
      exact cm_turns hL hrun hnb hm hend hk rem (j + 1) M' (by omega) (by omega) h2 ⟨fun b q1 q2 => (h3 b (by omega) q1).trans (hK.1 b q1 q2), fun k q1 q2 => (h4 k q2).trans (hK.2 k q1 q2)⟩
def mr_K (I M' : rl_M) (f nb W H : Nat) (mn : Nat → Int32) (O : rl_A) : Prop := (∀ b, ¬ (84 ≤ b ∧ b ≤ 87) → ¬ (100 ≤ b ∧ b ≤ 104) → M' b = I b) ∧ (M' 84 0 = 0 ∧ M' 84 1 = I 84 1 + 1 ∧ M' 84 10 = I 84 10) ∧ (∀ k, ¬ (9 * (f + 1) ≤ k ∧ k < 9 * (f + 1) + 9) → M' 85 k = I 85 k) ∧
  (M' 85 (9 * (f + 1)) = 0 ∧ M' 85 (9 * (f + 1) + 1) = 0 ∧ M' 85 (9 * (f + 1) + 2) = Int32.ofNat W ∧ M' 85 (9 * (f + 1) + 3) = Int32.ofNat H ∧ M' 85 (9 * (f + 1) + 4) = Int32.ofNat (pb_v nb) ∧ M' 85 (9 * (f + 1) + 5) = 0 ∧ M' 85 (9 * (f + 1) + 6) = 0 ∧ M' 85 (9 * (f + 1) + 7) = -1 ∧ M' 85 (9 * (f + 1) + 8) = 0) ∧
  (∀ k, ¬ (16 * (f + 1) ≤ k ∧ k < 16 * (f + 1) + 16) → M' 86 k = I 86 k) ∧ (∀ k, k < 16 → M' 86 (16 * (f + 1) + k) = if k < nb then mn k else 0) ∧ (∀ k, ¬ (64 * f ≤ k ∧ k < 64 * f + 64) → M' 87 k = I 87 k) ∧ ∀ j, j < 64 → M' 87 (64 * f + j) = O j
set_option maxHeartbeats 4000000 in
theorem cm_reduce (hf : I 84 1 = Int32.ofNat f) (hf4 : f < 4) (h8 : (1 ≤ W ∧ W ≤ 8) ∧ 1 ≤ H ∧ H ≤ 8) (e2 : I 85 2 = Int32.ofNat W) (e3 : I 85 3 = Int32.ofNat H) (hpc : ∀ k, k < 64 → 0 ≤ (I 92 k).toInt ∧ (I 92 k).toInt < 16777216) (hLe : L = ry_l (I 92) W H) (hL : rd_G L) (hrun : rd_run L nb sq) (hnb : 1 ≤ nb ∧ nb ≤ most) (hm : 1 ≤ most ∧ most ≤ 16) (hend : nb = most ∨ (sq nb (rd_w (sq nb) nb)).length < 2) (hmd : mode = 0 ∨ mode = 1 ∨ mode = 2)
    (hk : ∀ M', mr_K I M' f nb W H (fun k => me_v (sq nb k)) (rw_y (fun k => me_v (sq nb k)) nb mode (I 92) W H H).2 → Q (.inl (some (.int (Int32.ofNat nb)))) (M', J, rf_w r, sh_w N, n)) :
    mc_WP (mc_en 124 [.ref 84, .int (Int32.ofNat most), .int mode] (I, J, rf_w r, sh_w N, n)) Q := by
  have hmode : 0 ≤ mode.toInt ∧ mode.toInt ≤ 2 := by rcases hmd with rfl | rfl | rfl <;> decide
  have hmt : (Int32.ofNat most).toInt = most := on_t (by omega)
  have hft : (I 84 1).toInt = f := by rw [hf, on_t (by omega)]
  have hfn : (I 84 1).toNatClampNeg = f := by rw [hf, on_n (by omega)]
  refine bk_124_0 (mc_inl ?_)
  refine cm_outside (fun _ => ?_) (fun q => absurd (by rw [hmt, i3_1, i3_16]; omega) q)
  refine bk_124_8 ⟨fun q => absurd rfl q, fun _ => mc_inl ?_⟩
  refine cm_outside (fun _ => ?_) (fun q => absurd (by rw [i3_0, i3_2]; omega) q)
  have hno : ¬ I 84 1 = 4 := fun z => by rw [z, i3_4] at hft; omega
  refine bk_124_17 ⟨fun _ => ⟨fun _ => mc_inl ?_, fun q => absurd hno q⟩, fun q => absurd rfl q⟩
  have u85 : mc_up I 84 0 0 85 = I 85 := up_ne (by decide)
  have u92 : mc_up I 84 0 0 92 = I 92 := up_ne (by decide)
  refine cm_gather (W := W) (H := H) (by omega) (by omega) (by rw [u85]; exact e2) (by rw [u85]; exact e3) (by rw [u92]; exact hpc) fun M1 hg => bk_124_53 ?_
  rw [u92, ← hLe] at hg
  obtain ⟨g1, g2, g3, g4, g5⟩ := hg
  have hsm := sm_t (fun a ha => (hL.2.1 a ha).2) hL.2.2.2
  have hle := hL.2.2.2
  -- the first box holds all
  have hb1 : mb_is (mc_up M1 84 32 1) L.length 1 (sq 1) := by
    refine ⟨by rw [up_nk (by decide)]; exact g3, by omega, by rw [up_at]; rfl, by decide, fun k hk' => ⟨0, by decide, by rw [up_ne (by decide)]; exact g5 k hk'⟩, fun b hb => ?_⟩
    have : b = 0 := by omega
    subst this
    rw [hrun.1]
    have : ∀ k, k ≤ L.length → fl_l (mc_up M1 84 32 1) k (Int32.ofNat 0) = L.take k := by
      intro k
      induction k with
      | zero => intro _; rfl
      | succ k ih =>
        intro hk'
        obtain ⟨a, a1, a2, a3, a4⟩ := ro_get (k := k) g4 (by omega)
        rw [fl_s1 (by rw [up_ne (by decide)]; exact g5 k (by omega)), ih (by omega), up_ne (by decide), up_ne (by decide), a3, a4, List.take_succ, a1]
        rfl
    rw [this _ (Nat.le_refl _), List.take_length]
  refine cm_turns (M0 := mc_up I 84 0 0) hL hrun hnb hm.2 hend (fun M2 x3 hb hK => ?_) (nb - 1) 1 _ (Nat.le_refl _) (by omega) hb1 ⟨fun b q1 q2 => by rw [up_ne q1]; exact g1 b q1 (by omega) (by omega) (by omega), fun k q1 q2 => by rw [up_nk q2]; exact g2 k q1⟩
  have hgood := rd_good hL hrun nb hnb.1 (Nat.le_refl _)
  obtain ⟨b1, b2, b3, b4, b5, b6⟩ := hb
  -- the means
  refine lp_go (C := fun i (M3 : rl_M) => (124, 83, [.ref 84, .int (Int32.ofNat most), .int mode, .int x3, .int (Int32.ofNat i), .null, .null, .null, .null, .null], [], (M3, J, rf_w r, sh_w N, n), (0, 0))) (P := fun i M3 => (∀ b, ¬ b = 103 → M3 b = M2 b) ∧ ∀ k, k < i → M3 103 k = me_v (sq nb k)) nb M2 ⟨fun _ _ => rfl, fun k hk' => absurd hk' (by omega)⟩ ?_ ?_
  · intro i hi M3 ⟨h3, h103⟩ next
    try dsimp only at h3 h103 next ⊢
    have fle : fl_l M3 L.length (Int32.ofNat i) = fl_l M2 L.length (Int32.ofNat i) := fl_cg _ (fun k _ => by rw [h3 102 (by decide)]) (fun k _ => by rw [h3 100 (by decide), h3 101 (by decide)]; exact ⟨rfl, rfl⟩)
    refine bk_124_83 ?_
    rw [h3 84 (by decide), b3]
    refine ⟨fun q => absurd ((on_le (by omega) (by omega)).mp q) (by omega), fun _ => mc_inl ?_⟩
    refine cm_mean (by rw [h3 84 (by decide)]; exact b1) b2 (by rw [fle]; exact (hgood i hi).perm (b6 i hi).symm) ?_
    have em : me_v (fl_l M3 L.length (Int32.ofNat i)) = me_v (sq nb i) := by rw [fle]; exact me_perm (b6 i hi) 3
    rw [em]
    refine bk_124_104 (b0z := 16) rfl (by decide) ?_
    rw [on_n (by omega), on_1]
    refine ⟨on_vp (by omega) (by omega), next _ ⟨fun b hb => (up_ne hb).trans (h3 b hb), fun k hk' => ?_⟩⟩
    rw [up_row]
    dsimp only
    by_cases q : k = i
    · rw [if_pos q, q]
    · rw [if_neg q]; exact h103 k (by omega)
  · intro M3 ⟨h3, h103⟩
    try dsimp only at h3 h103 ⊢
    have f3 : ∀ b, ¬ b = 84 → ¬ (100 ≤ b ∧ b ≤ 103) → M3 b = I b := fun b q1 q2 => by rw [h3 b (by omega), hK.1 b q1 (by omega), up_ne q1]
    have f84 : ∀ k, ¬ k = 28 → ¬ k = 32 → M3 84 k = mc_up I 84 0 0 84 k := fun k q1 q2 => by rw [h3 84 (by decide), hK.2 k q1 q2]
    have c84 : M3 84 1 = I 84 1 := by rw [f84 1 (by decide) (by decide), up_nk (by decide)]
    refine bk_124_83 ?_
    rw [h3 84 (by decide), b3, f3 85 (by decide) (by decide), e2, e3]
    refine ⟨fun _ => mc_inl ?_, fun q => absurd ((on_le (by omega) (by omega)).mpr (Nat.le_refl _)) q⟩
    refine cm_add (by rw [c84]; omega) ?_
    rw [c84]
    refine bk_124_129 ?_
    have hcn : (M3 84 1).toNatClampNeg = f := by rw [c84]; exact hfn
    have a84 := am_84 (I := M3) (x1 := 0) (x2 := 0) (x3 := Int32.ofNat W) (y4 := Int32.ofNat H)
    have a85o := fun k (hk' : ¬ (9 * (f + 1) ≤ k ∧ k < 9 * (f + 1) + 9)) => am_85o (I := M3) (x1 := 0) (x2 := 0) (x3 := Int32.ofNat W) (y4 := Int32.ofNat H) hcn hk'
    have a85v := am_85v (I := M3) (x1 := 0) (x2 := 0) (x3 := Int32.ofNat W) (y4 := Int32.ofNat H) hcn
    have a86 := am_86 (I := M3) (x1 := 0) (x2 := 0) (x3 := Int32.ofNat W) (y4 := Int32.ofNat H) hcn
    have a87 := am_87 (I := M3) (x1 := 0) (x2 := 0) (x3 := Int32.ofNat W) (y4 := Int32.ofNat H) hcn
    have arow : ∀ b, ¬ b = 84 → ¬ b = 85 → ¬ b = 86 → ¬ b = 87 → am_M M3 0 0 (Int32.ofNat W) (Int32.ofNat H) b = M3 b := fun b q4 q5 q6 q7 => am_row q4 q5 q6 q7
    generalize am_M M3 0 0 (Int32.ofNat W) (Int32.ofNat H) = A at a84 a85o a85v a86 a87 arow
    have A32 : A 84 32 = Int32.ofNat nb := by rw [a84, up_nk (by decide), h3 84 (by decide)]; exact b3
    rw [hf]
    have ie : (9 : Int32) * (Int32.ofNat f + 1) + 4 = Int32.ofNat (9 * (f + 1) + 4) := on_9 (f := f) (k := 4)
    have i16 : ∀ k, (16 : Int32) * (Int32.ofNat f + 1) + Int32.ofNat k = Int32.ofNat (16 * (f + 1) + k) := fun k => by rw [Int32.ofNat_add, Int32.ofNat_mul, Int32.ofNat_add]; rfl
    -- behind the bits
    have bits : mc_WP (124, 170, [.ref 84, .int (Int32.ofNat most), .int mode, .int x3, .int (Int32.ofNat f), .int (Int32.ofNat (pb_v nb)), .int 0, .null, .null, .null], [], (mc_up A 85 (9 * (f + 1) + 4) (Int32.ofNat (pb_v nb)), J, rf_w r, sh_w N, n), (0, 0)) Q := by
      generalize hB : mc_up A 85 (9 * (f + 1) + 4) (Int32.ofNat (pb_v nb)) = B
      have B84 : B 84 = A 84 := by rw [← hB, up_ne (by decide)]
      have B103 : B 103 = M3 103 := by rw [← hB, up_ne (by decide), arow 103 (by decide) (by decide) (by decide) (by decide)]
      refine lp_go (C := fun i (M4 : rl_M) => (124, 170, [.ref 84, .int (Int32.ofNat most), .int mode, .int x3, .int (Int32.ofNat f), .int (Int32.ofNat (pb_v nb)), .int (Int32.ofNat i), .null, .null, .null], [], (M4, J, rf_w r, sh_w N, n), (0, 0))) (P := fun i M4 => (∀ b, ¬ b = 86 → M4 b = B b) ∧ ∀ k, M4 86 k = if 16 * (f + 1) ≤ k ∧ k < 16 * (f + 1) + i then me_v (sq nb (k - 16 * (f + 1))) else B 86 k) nb B ⟨fun _ _ => rfl, fun k => by rw [if_neg (by omega)]⟩ ?_ ?_
      · intro i hi M4 ⟨h4, h86⟩ next
        try dsimp only at h4 h86 next ⊢
        refine bk_124_170 ?_
        rw [h4 84 (by decide), B84, A32, i16, on_n (k := i) (by omega), on_n (k := 16 * (f + 1) + i) (by omega), on_1 (k := i), h4 103 (by decide), B103, h103 i hi]
        refine ⟨fun q => absurd ((on_le (by omega) (by omega)).mp q) (by omega), fun _ => ⟨on_vp (by omega) (by omega), on_vp (by omega) (by omega), next _ ⟨fun b hb => (up_ne hb).trans (h4 b hb), fun k => ?_⟩⟩⟩
        rw [up_row]
        dsimp only
        by_cases q : k = 16 * (f + 1) + i
        · rw [if_pos q, if_pos (by omega), q, Nat.add_sub_cancel_left]
        · rw [if_neg q, h86 k]
          by_cases q2 : 16 * (f + 1) ≤ k ∧ k < 16 * (f + 1) + i
          · rw [if_pos q2, if_pos (by omega)]
          · rw [if_neg q2, if_neg (by omega)]
      · intro M4 ⟨h4, h86⟩
        try dsimp only at h4 h86 ⊢
        refine bk_124_170 ?_
        rw [h4 84 (by decide), B84, A32]
        refine ⟨fun _ => ?_, fun q => absurd ((on_le (by omega) (by omega)).mpr (Nat.le_refl _)) q⟩
        refine lp_go (C := fun i (M5 : rl_M) => (124, 210, [.ref 84, .int (Int32.ofNat most), .int mode, .int x3, .int (Int32.ofNat f), .int (Int32.ofNat (pb_v nb)), .int (Int32.ofNat i), .null, .null, .null], [], (M5, J, rf_w r, sh_w N, n), (0, 0))) (P := fun i M5 => (∀ b, ¬ b = 104 → M5 b = M4 b) ∧ ∀ k, k < i → M5 104 k = 0) 192 M4 ⟨fun _ _ => rfl, fun k hk' => absurd hk' (by omega)⟩ ?_ ?_
        · intro i hi M5 ⟨h5, h104⟩ next
          try dsimp only at h5 h104 next ⊢
          refine bk_124_210 ⟨fun q => absurd ((on_le (k := 192) (by omega) (by omega)).mp q) (by omega), fun _ => ?_⟩
          rw [on_n (by omega), on_1]
          refine ⟨on_vp (by omega) hi, next _ ⟨fun b hb => (up_ne hb).trans (h5 b hb), fun k hk' => ?_⟩⟩
          rw [up_row]
          dsimp only
          by_cases q : k = i
          · rw [if_pos q]
          · rw [if_neg q]; exact h104 k (by omega)
        · intro M5 ⟨h5, h104⟩
          try dsimp only at h5 h104 ⊢
          refine bk_124_210 ⟨fun _ => ?_, fun q => absurd ((on_le (k := 192) (by omega) (by omega)).mpr (Nat.le_refl _)) q⟩
          have r5 : ∀ b, ¬ b = 104 → ¬ b = 86 → M5 b = B b := fun b q1 q2 => (h5 b q1).trans (h4 b q2)
          have B85 : ∀ k, ¬ k = 9 * (f + 1) + 4 → B 85 k = A 85 k := fun k q => by rw [← hB, up_nk q]
          have B85' : B 85 (9 * (f + 1) + 4) = Int32.ofNat (pb_v nb) := by rw [← hB, up_at]
          have B86 : B 86 = A 86 := by rw [← hB, up_ne (by decide)]
          have B87 : B 87 = A 87 := by rw [← hB, up_ne (by decide)]
          have Bf : ∀ b, ¬ (84 ≤ b ∧ b ≤ 87) → ¬ (100 ≤ b ∧ b ≤ 103) → B b = I b := fun b q1 q2 => by rw [← hB, up_ne (by omega), arow b (by omega) (by omega) (by omega) (by omega), f3 b (by omega) q2]
          have B92 : B 92 = I 92 := Bf 92 (by decide) (by decide)
          have mne : ∀ j, j < nb → M5 103 j = me_v (sq nb j) := fun j hj => by rw [r5 103 (by decide) (by decide), B103]; exact h103 j hj
          refine cm_rows (M0 := M5) (pc := I 92) (W := W) (H := H) (nb := nb) hf4 (by omega) ?_ ?_ ?_ (by omega) hmd (fun k _ => by rw [r5 92 (by decide) (by decide), B92]) ⟨fun _ _ _ => rfl, h104, fun j hj => ?_, fun _ _ => rfl⟩ fun M6 hP => ?_
          · rw [r5 85 (by decide) (by decide), B85 2 (by omega), a85o 2 (by omega), f3 85 (by decide) (by decide)]; exact e2
          · rw [r5 85 (by decide) (by decide), B85 3 (by omega), a85o 3 (by omega), f3 85 (by decide) (by decide)]; exact e3
          · rw [r5 84 (by decide) (by decide), B84]; exact A32
          · rw [r5 87 (by decide) (by decide), B87]; exact a87.1 j hj
          · rw [rwy_eq hnb.1 mne] at hP
            obtain ⟨p1, p2, p3, p4⟩ := hP
            obtain ⟨v0, v1, v2, v3, v4, v5, v6, v7, v8⟩ := a85v
            have s85 : M6 85 = B 85 := by rw [p1 85 (by decide) (by decide), r5 85 (by decide) (by decide)]
            have s84 : M6 84 = A 84 := by rw [p1 84 (by decide) (by decide), r5 84 (by decide) (by decide), B84]
            refine hk M6 ⟨fun b q1 q2 => ?_, ⟨?_, ?_, ?_⟩, fun k hk' => ?_, ⟨?_, ?_, ?_, ?_, ?_, ?_, ?_, ?_, ?_⟩, fun k hk' => ?_, fun k hk' => ?_, fun k hk' => ?_, p3⟩
            · rw [p1 b (by omega) (by omega), r5 b (by omega) (by omega), Bf b q1 (by omega)]
            · rw [s84, a84, up_nk (by decide), f84 0 (by decide) (by decide), up_at]
            · rw [s84, a84, up_at, c84]
            · rw [s84, a84, up_nk (by decide), f84 10 (by decide) (by decide), up_nk (by decide)]
            · rw [s85, B85 k (by omega), a85o k hk', f3 85 (by decide) (by decide)]
            · rw [s85, B85 _ (by omega)]; exact v0
            · rw [s85, B85 _ (by omega)]; exact v1
            · rw [s85, B85 _ (by omega)]; exact v2
            · rw [s85, B85 _ (by omega)]; exact v3
            · rw [s85]; exact B85'
            · rw [s85, B85 _ (by omega)]; exact v5
            · rw [s85, B85 _ (by omega)]; exact v6
            · rw [s85, B85 _ (by omega)]; exact v7
            · rw [s85, B85 _ (by omega)]; exact v8
            · rw [p1 86 (by decide) (by decide), h5 86 (by decide), h86 k, if_neg (by omega), B86, a86.2 k hk', f3 86 (by decide) (by decide)]
            · rw [p1 86 (by decide) (by decide), h5 86 (by decide), h86]
              by_cases q : k < nb
              · rw [if_pos (by omega), if_pos q, Nat.add_sub_cancel_left]
              · rw [if_neg (by omega), if_neg q, B86]; exact a86.1 k hk'
            · rw [p4 k hk', r5 87 (by decide) (by decide), B87, a87.2 k hk', f3 87 (by decide) (by decide)]
    have ib : vp_in (Int32.ofNat (9 * (f + 1) + 4)) 45 := on_vp (by omega) (by omega)
    have t1 : (Int32.ofNat nb ≤ (1 : Int32) <<< ((1 : Int32) &&& 31)) ↔ nb ≤ 2 := on_le (m := 2) (by omega) (by omega)
    have t2 : (Int32.ofNat nb ≤ (1 : Int32) <<< ((1 + 1 : Int32) &&& 31)) ↔ nb ≤ 4 := on_le (m := 4) (by omega) (by omega)
    have t3 : (Int32.ofNat nb ≤ (1 : Int32) <<< ((1 + 1 + 1 : Int32) &&& 31)) ↔ nb ≤ 8 := on_le (m := 8) (by omega) (by omega)
    have t4 : (Int32.ofNat nb ≤ (1 : Int32) <<< ((1 + 1 + 1 + 1 : Int32) &&& 31)) ↔ nb ≤ 16 := on_le (m := 16) (by omega) (by omega)
    unfold pb_v at bits
    refine bk_124_134 ?_
    rw [A32, ie, on_n (k := 9 * (f + 1) + 4) (by omega)]
    refine ⟨fun q => ⟨ib, ?_⟩, fun q1 => ?_⟩
    · rw [if_pos (t1.mp q)] at bits; exact bits
    · rw [if_neg (fun z => q1 (t1.mpr z))] at bits
      refine bk_124_134 ?_
      rw [A32, ie, on_n (k := 9 * (f + 1) + 4) (by omega)]
      refine ⟨fun q => ⟨ib, ?_⟩, fun q2 => ?_⟩
      · rw [if_pos (t2.mp q)] at bits; exact bits
      · rw [if_neg (fun z => q2 (t2.mpr z))] at bits
        refine bk_124_134 ?_
        rw [A32, ie, on_n (k := 9 * (f + 1) + 4) (by omega)]
        refine ⟨fun q => ⟨ib, ?_⟩, fun q3 => ?_⟩
        · rw [if_pos (t3.mp q)] at bits; exact bits
        · rw [if_neg (fun z => q3 (t3.mpr z))] at bits
          refine bk_124_134 ?_
          rw [A32, ie, on_n (k := 9 * (f + 1) + 4) (by omega)]
          exact ⟨fun q => ⟨ib, bits⟩, fun q4 => absurd (t4.mpr (by omega)) q4⟩
end
