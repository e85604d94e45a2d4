section
variable {I M : rl_M} {J : Nat → Nat → Int64} {r N n : Nat} {Q : mc_Q} {a b k j f : Nat} {v x1 x4 : Int32} {c : rl_M} {x5 x6 : Value} {u : mc_U}
set_option maxHeartbeats 2000000 in
theorem dm_disp (hR : rb_R c (I 84 1) (I 85) (I 86) (I 87)) (hf : (f : Int) < (I 84 1).toInt)
    (hk : ∀ M, (∀ b, ¬ b = 93 → M b = I b) → (∀ X Y : Nat, X < 8 → Y < 8 → M 93 (8 * Y + X) = if (X : Int) < (I 85 2).toInt ∧ (Y : Int) < (I 85 3).toInt then dd_v (I 85) f X Y (I 93 (8 * Y + X)) (I 94 (8 * Y + X)) else I 93 (8 * Y + X)) → Q (.inl none) (M, J, rf_w r, sh_w N, n)) :
    mc_WP (mc_en 107 [.ref 84, .int (Int32.ofNat f)] (I, J, rf_w r, sh_w N, n)) Q := by
  obtain ⟨W, H, fx, fy, fw, fh, e1, e2, e3, e4, e5, e6, g1, g2, g3, g4, g5, g6, hf4⟩ := dw_g hR hf
  have w2 : (I 85 2).toInt = W := by rw [e1, on_t (by omega)]
  have w3 : (I 85 3).toInt = H := by rw [e2, on_t (by omega)]
  have i5 := dm_9 (k := 5) hf4 (by decide)
  rw [show Int32.ofNat 5 = 5 from rfl] at i5
  refine bk_107_0 ⟨i5.2, ?_⟩
  rw [i5.1]
  generalize hd : I 85 (9 * (f + 1) + 5) = d
  let T : Nat → Nat → Int32 := fun X Y => dd_v (I 85) f X Y (I 93 (8 * Y + X)) (I 94 (8 * Y + X))
  let P : Nat → Nat → rl_M → Prop := fun y x M => (∀ b, ¬ b = 93 → M b = I b) ∧ ∀ X Y : Nat, X < 8 → Y < 8 → M 93 (8 * Y + X) = if X < W ∧ (Y < y ∨ (Y = y ∧ X < x)) then T X Y else I 93 (8 * Y + X)
  refine lp_go (C := fun y (i : rl_M × Value × Value) => (107, 16, [.ref 84, .int (Int32.ofNat f), .int d, .int (Int32.ofNat y), i.2.1, i.2.2], [], (i.1, J, rf_w r, sh_w N, n), (0, 0))) (P := fun y i => P y 0 i.1) H (I, .null, .null) ⟨fun _ _ => rfl, fun X Y _ _ => by rw [if_neg (by omega)]⟩ ?_ ?_
  · intro y hy ⟨M, z4, z5⟩ hP next
    dsimp only at hP next ⊢
    refine bk_107_16 ?_
    rw [hP.1 85 (by decide), e2]
    refine ⟨fun q => absurd ((on_le (by omega) (by omega)).mp q) (by omega), fun _ => ?_⟩
    refine lp_go (C := fun x (i : rl_M × Value) => (107, 29, [.ref 84, .int (Int32.ofNat f), .int d, .int (Int32.ofNat y), .int (Int32.ofNat x), i.2], [], (i.1, J, rf_w r, sh_w N, n), (0, 0))) (P := fun x i => P y x i.1) W (M, z5) hP ?_ ?_
    · intro x hx ⟨M, z5⟩ ⟨hM, hK⟩ nx
      dsimp only at hM hK nx ⊢
      have m85 := hM 85 (by decide)
      have k93 : M 93 (8 * y + x) = I 93 (8 * y + x) := by rw [hK x y (by omega) (by omega), if_neg (by omega)]
      have hRM : rb_R c (M 84 1) (M 85) (M 86) (M 87) := by rw [hM 84 (by decide), m85, hM 86 (by decide), hM 87 (by decide)]; exact hR
      have fin : ∀ (w : Int32) (z : Value), w = T x y → mc_WP (107, 29, [.ref 84, .int (Int32.ofNat f), .int d, .int (Int32.ofNat y), .int (Int32.ofNat (x + 1)), z], [], (mc_up M 93 (8 * y + x) w, J, rf_w r, sh_w N, n), (0, 0)) Q := by
        intro w z hw
        refine nx (_, z) ⟨fun b h1 => (up_ne h1).trans (hM b h1), fun X Y hX hY => ?_⟩
        show mc_up M 93 (8 * y + x) w 93 (8 * Y + X) = _
        rw [up_row]
        dsimp only
        by_cases q2 : X = x ∧ Y = y
        · rw [if_pos (by omega), if_pos (by omega), hw, q2.1, q2.2]
        · rw [if_neg (by omega), hK X Y hX hY]
          by_cases q : X < W ∧ (Y < y ∨ Y = y ∧ X < x)
          · rw [if_pos q, if_pos (by omega)]
          · rw [if_neg q, if_neg (by omega)]
      have hT : T x y = dd_v (I 85) f x y (I 93 (8 * y + x)) (I 94 (8 * y + x)) := rfl
      unfold dd_v at hT
      rw [hd] at hT
      refine bk_107_29 ?_
      rw [m85, e1]
      refine ⟨fun q => absurd ((on_le (by omega) (by omega)).mp q) (by omega), fun _ => ?_⟩
      rw [on_8', on_n (by omega), on_1 (k := x)]
      refine ⟨fun q => ⟨fun q2 => ⟨on_vp (by omega) (by omega), on_vp (by omega) (by omega), fin _ _ ?_⟩, fun q2 => ⟨on_vp (by omega) (by omega), on_vp (by omega) (by omega), fin _ _ ?_⟩⟩, fun q => mc_inl ?_⟩
      · rw [hT, if_neg q, if_neg q2]; exact k93
      · rw [hT, if_neg q, if_pos (Classical.not_not.mp q2), hM 94 (by decide)]
      · have q2 := Classical.not_not.mp q
        rw [if_pos q2] at hT
        refine dm_lies hRM (by rw [hM 84 (by decide)]; exact hf) (by rw [m85, w2]; omega) (by rw [m85, w3]; omega) fun v hv => ?_
        rw [m85] at hv
        refine bk_107_68 (b0z := 64) rfl (by decide) ?_
        rw [on_n (by omega), on_1 (k := x)]
        refine ⟨fun q3 => ⟨fun q4 => ⟨on_vp (by omega) (by omega), on_vp (by omega) (by omega), fin _ _ ?_⟩, fun q4 => absurd (fun z => absurd (q2.symm.trans z) (by decide)) q4⟩, fun q3 => ⟨on_vp (by omega) (by omega), fin _ _ ?_⟩⟩
        · rw [hT, k93, if_neg]
          rcases hv with q1 | q1
          · exact q1.2
          · rw [q1.1] at q3; exact absurd q3 (by decide)
        · rw [hT, if_pos]
          rcases hv with q1 | q1
          · exact absurd q1.1 q3
          · exact q1.2
    · intro ⟨M, z5⟩ ⟨hM, hK⟩
      dsimp only at hM hK ⊢
      refine bk_107_29 ?_
      rw [hM 85 (by decide), e1]
      refine ⟨fun _ => ?_, fun q => absurd ((on_le (by omega) (by omega)).mpr (Nat.le_refl _)) q⟩
      rw [on_1 (k := y)]
      refine next (M, _, _) ⟨hM, fun X Y hX hY => ?_⟩
      dsimp only
      rw [hK X Y hX hY]
      by_cases q : X < W ∧ (Y < y ∨ Y = y ∧ X < W)
      · rw [if_pos q, if_pos (by omega)]
      · rw [if_neg q, if_neg (by omega)]
  · intro ⟨M, z4, z5⟩ ⟨hM, hK⟩
    dsimp only at hM hK ⊢
    refine bk_107_16 ?_
    rw [hM 85 (by decide), e2]
    refine ⟨fun _ => hk M hM fun X Y hX hY => ?_, fun q => absurd ((on_le (by omega) (by omega)).mpr (Nat.le_refl _)) q⟩
    rw [hK X Y hX hY]
    by_cases q : X < W ∧ (Y < H ∨ Y = H ∧ X < 0)
    · rw [if_pos q, if_pos (by omega)]
    · rw [if_neg q, if_neg (by omega)]
/-- outside the screen nothing is ever shown -/
theorem dp_out {hs cs ps : rl_A} {X Y : Nat} (h : ¬ ((X : Int) < (hs 2).toInt ∧ (Y : Int) < (hs 3).toInt)) : ∀ i, dp_v hs cs ps X Y i = (-1, -1)
  | 0 => rfl
  | i + 1 => by
    have h1 := dp_out (cs := cs) (ps := ps) h i
    have h2 : ∀ f k, dw_v hs cs ps f X Y k = k := fun f k => by
      unfold dw_v
      rw [if_neg (fun z => h z.1.1)]
    have h3 : ∀ f, dd_v hs f X Y (-1) (-1) = -1 := fun f => by
      unfold dd_v
      split
      · rw [if_neg (fun z => h z.1)]
      · split <;> rfl
    unfold dp_v
    rw [h1, h2, h3, ite_self]
theorem dm_clear (hk : ∀ M, (∀ b, ¬ b = 93 → M b = I b) → (∀ k, k < 64 → M 93 k = -1) → Q (.inl none) (M, J, rf_w r, sh_w N, n)) : mc_WP (mc_en 59 [.ref 84] (I, J, rf_w r, sh_w N, n)) Q := by
  refine bk_59_0 ?_
  refine lp_go (C := fun i (M : rl_M) => (59, 2, [.ref 84, .int (Int32.ofNat i)], [], (M, J, rf_w r, sh_w N, n), (0, 0))) (P := fun i M => (∀ b, ¬ b = 93 → M b = I b) ∧ ∀ k, k < i → M 93 k = -1) 64 I ⟨fun _ _ => rfl, fun k hk => absurd hk (by omega)⟩ ?_ ?_
  · intro i hi M ⟨hM, hK⟩ next
    refine bk_59_2 ⟨fun q => absurd ((on_le (k := 64) (by omega) (by omega)).mp q) (by omega), fun _ => ?_⟩
    rw [on_n (by omega), on_1]
    refine ⟨on_vp (by omega) hi, next _ ⟨fun b hb => (up_ne hb).trans (hM b hb), fun k hk => ?_⟩⟩
    rw [up_row]
    dsimp only
    by_cases q : k = i
    · rw [if_pos q]
    · rw [if_neg q]; exact hK k (by omega)
  · intro M ⟨hM, hK⟩
    exact bk_59_2 ⟨fun _ => hk M hM hK, fun q => absurd ((on_le (k := 64) (by omega) (by omega)).mpr (Nat.le_refl _)) q⟩
theorem dm_all {m : Nat} (hR : rb_R c (I 84 1) (I 85) (I 86) (I 87)) (hc : (m : Int) ≤ (I 84 1).toInt) (h93 : ∀ k, k < 64 → I 93 k = -1)
    (hk : ∀ M, (∀ b, ¬ b = 93 → ¬ b = 94 → M b = I b) → (∀ X Y : Nat, X < 8 → Y < 8 → M 93 (8 * Y + X) = (dp_v (I 85) (I 86) (I 87) X Y m).1) → Q (.inl (some (.int (Int32.ofNat (dn_c (M 93) 64))))) (M, J, rf_w r, sh_w N, n)) :
    mc_WP (108, 36, [.ref 84, .int (Int32.ofNat m), .int 0, .null], [], (I, J, rf_w r, sh_w N, n), (0, 0)) Q := by
  have h4 := hR.1
  refine lp_go (C := fun i (M : rl_M) => (108, 36, [.ref 84, .int (Int32.ofNat m), .int (Int32.ofNat i), .null], [], (M, J, rf_w r, sh_w N, n), (0, 0))) (P := fun i M => (∀ b, ¬ b = 93 → ¬ b = 94 → M b = I b) ∧ ∀ X Y : Nat, X < 8 → Y < 8 → M 93 (8 * Y + X) = (dp_v (I 85) (I 86) (I 87) X Y i).1 ∧ (0 < i → (X : Int) < (I 85 2).toInt → (Y : Int) < (I 85 3).toInt → M 94 (8 * Y + X) = (dp_v (I 85) (I 86) (I 87) X Y i).2)) m I ⟨fun _ _ _ => rfl, fun X Y hX hY => ⟨h93 _ (by omega), fun q => absurd q (by decide)⟩⟩ ?_ ?_
  · intro i hi M ⟨hM, hK⟩ next
    try dsimp only at hM hK next ⊢
    have hRM := dm_R hM hR
    have m84 := hM 84 (by decide) (by decide)
    have m85 := hM 85 (by decide) (by decide)
    have draw : ∀ M' : rl_M, (∀ b, ¬ b = 93 → ¬ b = 94 → M' b = I b) → (∀ X Y : Nat, X < 8 → Y < 8 → M' 93 (8 * Y + X) = (dp_v (I 85) (I 86) (I 87) X Y (i + 1)).2) → mc_WP (108, 52, [.ref 84, .int (Int32.ofNat m), .int (Int32.ofNat i), .null], [], (M', J, rf_w r, sh_w N, n), (0, 0)) Q := by
      intro M' hM' hK'
      refine bk_108_52 (mc_inl ?_)
      refine dm_one (dm_R hM' hR) (by rw [hM' 84 (by decide) (by decide)]; omega) fun M2 h1 h2 => ?_
      refine bk_108_57 ?_
      rw [on_1]
      rw [hM' 85 (by decide) (by decide), hM' 86 (by decide) (by decide), hM' 87 (by decide) (by decide)] at h2
      refine next M2 ⟨fun b q1 q2 => (h1 b q1 q2).trans (hM' b q1 q2), fun X Y hX hY => ⟨?_, fun _ q1 q2 => ?_⟩⟩
      · rw [(h2 X Y hX hY).1, hK' X Y hX hY]
        rfl
      · rw [(h2 X Y hX hY).2 q1 q2, hK' X Y hX hY]
    refine bk_108_36 ⟨fun q => absurd ((on_le (by omega) (by omega)).mp q) (by omega), fun _ => ⟨fun q => draw M hM fun X Y hX hY => ?_, fun q => mc_inl ?_⟩⟩
    · rw [show (0 : Int32) = Int32.ofNat 0 from rfl, on_le (by omega) (by omega)] at q
      have q0 : i = 0 := by omega
      subst q0
      exact (hK X Y hX hY).1
    · rw [show (0 : Int32) = Int32.ofNat 0 from rfl, on_le (by omega) (by omega)] at q
      rw [show (1 : Int32) = Int32.ofNat 1 from rfl, on_sub (by omega)]
      refine dm_disp hRM (by rw [m84]; omega) fun M2 h1 h2 => draw M2 (fun b q1 q2 => (h1 b q1).trans (hM b q1 q2)) fun X Y hX hY => ?_
      rw [h2 X Y hX hY, m85, (hK X Y hX hY).1]
      by_cases hin : (X : Int) < (I 85 2).toInt ∧ (Y : Int) < (I 85 3).toInt
      · rw [if_pos hin, (hK X Y hX hY).2 (by omega) hin.1 hin.2]
        show _ = (if i = 0 then _ else _)
        rw [if_neg (by omega)]
      · rw [if_neg hin, dp_out hin i, dp_out hin (i + 1)]
  · intro M ⟨hM, hK⟩
    try dsimp only at hM hK ⊢
    refine bk_108_36 ⟨fun _ => ?_, fun q => absurd ((on_le (by omega) (by omega)).mpr (Nat.le_refl _)) q⟩
    have hq := hk M hM fun X Y hX hY => (hK X Y hX hY).1
    refine lp_go (C := fun i (_ : Unit) => (108, 67, [.ref 84, .int (Int32.ofNat m), .int (Int32.ofNat (dn_c (M 93) i)), .int (Int32.ofNat i)], [], (M, J, rf_w r, sh_w N, n), (0, 0))) (P := fun _ _ => True) 64 () trivial ?_ ?_
    · intro i hi _ _ next
      refine bk_108_67 ⟨fun q => absurd ((on_le (k := 64) (by omega) (by omega)).mp q) (by omega), fun _ => ?_⟩
      have nx := next () trivial
      rw [on_n (by omega), on_1, on_1]
      unfold dn_c at nx
      refine ⟨on_vp (by omega) hi, fun q => ?_, fun q => ?_⟩
      · rw [if_neg q] at nx; exact nx
      · rw [if_pos (Classical.not_not.mp q)] at nx; exact nx
    · intro _ _
      exact bk_108_67 ⟨fun _ => hq, fun q => absurd ((on_le (k := 64) (by omega) (by omega)).mpr (Nat.le_refl _)) q⟩
theorem cm_draw (hR : rb_R c (I 84 1) (I 85) (I 86) (I 87)) (h1 : dr_in (I 84 1) x1 → ∀ M, (∀ b, ¬ b = 93 → ¬ b = 94 → M b = mc_up I 84 0 0 b) → (∀ X Y : Nat, X < 8 → Y < 8 → M 93 (8 * Y + X) = (dp_v (I 85) (I 86) (I 87) X Y x1.toNatClampNeg).1) → Q (.inl (some (.int (Int32.ofNat (dn_c (M 93) 64))))) (M, J, rf_w r, sh_w N, n)) (h2 : ¬ dr_in (I 84 1) x1 → Q (.inl (some (.int 0))) (mc_up I 84 0 1, J, rf_w r, sh_w N, n)) :
    mc_WP (mc_en 108 [.ref 84, .int x1] (I, J, rf_w r, sh_w N, n)) Q := by
  unfold dr_in at h1 h2
  refine bk_108_0 ⟨fun q => h2 ?_, fun q => ⟨fun q2 => mc_inl ?_, fun q2 => h2 ?_⟩⟩
  · simp only [Int32.lt_iff_toInt_lt, Int32.le_iff_toInt_le, Int32.toInt_add, Int32.toInt_sub, Int32.toInt_mul, Int.bmod_def, i3_m1, i3_0, i3_1, i3_2, i3_3, i3_4, i3_5, i3_6, i3_7, i3_8, i3_9, i3_10, i3_15, i3_16, i3_19, i3_20, i3_24, i3_31, i3_33, i3_44, i3_45, i3_48, i3_49, i3_59, i3_63, i3_64, i3_80, i3_100, i3_192, i3_200000, i3_254, i3_255, i3_256, i3_800, i3_16777215, i3_16777216] at q; omega
  · rw [Int32.lt_iff_toInt_lt, i3_0] at q
    rw [Int32.le_iff_toInt_le] at q2
    obtain ⟨m, e1, e2, e3, -⟩ := on_get (v := x1) (by omega)
    rw [e3] at h1
    rw [e1]
    refine dm_clear fun M hM hK => bk_108_34 ?_
    have m84 : M 84 1 = I 84 1 := by rw [hM 84 (by decide), up_nk (by decide)]
    have m85 : M 85 = I 85 := by rw [hM 85 (by decide), up_ne (by decide)]
    have m86 : M 86 = I 86 := by rw [hM 86 (by decide), up_ne (by decide)]
    have m87 : M 87 = I 87 := by rw [hM 87 (by decide), up_ne (by decide)]
    refine dm_all (c := c) (by rw [m84, m85, m86, m87]; exact hR) (by rw [m84]; omega) hK fun M2 h3 h4 => ?_
    rw [m85, m86, m87] at h4
    exact h1 (by omega) M2 (fun b q1 q2 => (h3 b q1 q2).trans (hM b q1)) h4
  · simp only [Int32.lt_iff_toInt_lt, Int32.le_iff_toInt_le, Int32.toInt_add, Int32.toInt_sub, Int32.toInt_mul, Int.bmod_def, i3_m1, i3_0, i3_1, i3_2, i3_3, i3_4, i3_5, i3_6, i3_7, i3_8, i3_9, i3_10, i3_15, i3_16, i3_19, i3_20, i3_24, i3_31, i3_33, i3_44, i3_45, i3_48, i3_49, i3_59, i3_63, i3_64, i3_80, i3_100, i3_192, i3_200000, i3_254, i3_255, i3_256, i3_800, i3_16777215, i3_16777216] at q q2; omega
theorem lc_draw (hI : rl_I r I) (hN : N ≤ 3074) (hx : 0 ≤ x4.toInt ∧ x4.toInt + 6 ≤ N) (hu : u.1 + 3 ≤ 601024 ∧ u.2 + 18 ≤ 7293000) (hn : lw_nx N x4 u Q) : mc_WP (42, 991, [.ref 1, .ref 10, .ref 84, .ref 105, .int x4, x5, x6], [], (I, J, rf_w r, sh_w N, n), u) Q := by
  have hI' := hI
  obtain ⟨hr, hR, hB, hP, hC, hK⟩ := hI
  have hb := is_Rb hr
  refine bk_42_991 ⟨lw_i hN hx (by decide), by omega, by omega, mc_inl ?_⟩
  refine cw_draw hr hR (fun c M hM hc => ?_) (fun c => ?_)
  · refine bk_42_1002 ⟨lw_i hN hx (by decide), by show u.1 + 1 + 0 ≤ _; omega, by show u.2 + 6 + 0 ≤ _; omega, mc_inl ?_⟩
    rw [hM 1 (by decide) (by decide)]
    refine cm_draw (dw_R hr hM hR) (fun _ M2 hM2 hc2 => ?_) (fun q => absurd (by rw [hM 84 (by decide) (by decide)]; exact c) q)
    rw [hM 85 (by decide) (by decide), hM 86 (by decide) (by decide), hM 87 (by decide) (by decide)] at hc2
    have ne : ∀ b, ¬ b = 12 → ¬ b = 13 → ¬ b = 84 → ¬ b = 93 → ¬ b = 94 → M2 b = I b := fun b q1 q2 q3 q4 q5 => by rw [hM2 b q4 q5, up_ne q3, hM b q1 q2]
    have e12 : M2 12 = M 12 := by rw [hM2 12 (by decide) (by decide), up_ne (by decide)]
    have e84 : ∀ k, ¬ k = 0 → M2 84 k = I 84 k := fun k hk => by rw [hM2 84 (by decide) (by decide), up_nk hk, hM 84 (by decide) (by decide)]
    have e : ∀ k, k < 64 → M2 12 k = M2 93 k := fun k hk => by
      have q1 := hc (k % 8) (k / 8) (by omega) (by omega)
      have q2 := hc2 (k % 8) (k / 8) (by omega) (by omega)
      rw [show 8 * (k / 8) + k % 8 = k by omega] at q1 q2
      rw [e12, q1, q2]
    have hI2 : rl_I r M2 := by
      refine ⟨hr, ?_, ?_, ?_, e, ?_⟩
      · rw [rl_vc (I := I) (fun o _ => ne (r + o) (by omega) (by omega) (by omega) (by omega) (by omega)), e84 1 (by decide), ne 85 (by decide) (by decide) (by decide) (by decide) (by decide), ne 86 (by decide) (by decide) (by decide) (by decide) (by decide), ne 87 (by decide) (by decide) (by decide) (by decide) (by decide)]
        exact hR
      · rw [ne 54 (by decide) (by decide) (by decide) (by decide) (by decide), ne 55 (by decide) (by decide) (by decide) (by decide) (by decide), e84 10 (by decide), ne 91 (by decide) (by decide) (by decide) (by decide) (by decide)]
        exact hB
      · rw [ne 75 (by decide) (by decide) (by decide) (by decide) (by decide), ne 92 (by decide) (by decide) (by decide) (by decide) (by decide)]
        exact hP
      · refine ⟨fun p hp => ?_, fun a h1 h2 => ?_, fun k h1 => by rw [ne 88 (by decide) (by decide) (by decide) (by decide) (by decide)]; exact hK.2.2 k h1⟩
        · rw [ne p (fun q => by subst q; revert hp; decide) (fun q => by subst q; revert hp; decide) (fun q => by subst q; revert hp; decide) (fun q => by subst q; revert hp; decide) (fun q => by subst q; revert hp; decide)]
          exact hK.1 p hp
        · rw [ne a (by omega) (by omega) (by omega) (by omega) (by omega)]
          exact hK.2.1 a h1 h2
    exact le_1014 hI2 (by rw [hM2 84 (by decide) (by decide), up_at]) (fun _ => by rw [← e12, dn_eq 64 e]; exact if_pos ⟨rfl, rfl⟩) hu (by constructor <;> show _ + _ ≤ _ <;> omega) hn
  · refine bk_42_1002 ⟨lw_i hN hx (by decide), by show u.1 + 1 + 0 ≤ _; omega, by show u.2 + 6 + 0 ≤ _; omega, mc_inl ?_⟩
    refine cm_draw hR (fun q => absurd q c) (fun _ => ?_)
    exact le_1014 hI'.thr up_at (fun q => absurd q (by decide)) hu (by constructor <;> show _ + _ ≤ _ <;> omega) hn
end
