/-! draw: one frame over the canvas, the class's way -/
section
variable {I M : rl_M} {J : Nat → Nat → Int64} {r N n : Nat} {Q : mc_Q} {a b k j f : Nat} {v : Int32}
abbrev dw_in (hs : rl_A) (f X Y : Nat) : Prop := ((X : Int) < (hs 2).toInt ∧ (Y : Int) < (hs 3).toInt) ∧ ((hs (9 * (f + 1))).toInt ≤ X ∧ (X : Int) < (hs (9 * (f + 1))).toInt + (hs (9 * (f + 1) + 2)).toInt) ∧ (hs (9 * (f + 1) + 1)).toInt ≤ Y ∧ (Y : Int) < (hs (9 * (f + 1) + 1)).toInt + (hs (9 * (f + 1) + 3)).toInt
def dw_p (hs ps : rl_A) (f X Y : Nat) : Int32 := ps (64 * f + 8 * (Y - (hs (9 * (f + 1) + 1)).toInt.toNat) + (X - (hs (9 * (f + 1))).toInt.toNat))
def dw_v (hs cs ps : rl_A) (f X Y : Nat) (k : Int32) : Int32 := if dw_in hs f X Y ∧ ¬ dw_p hs ps f X Y = hs (9 * (f + 1) + 7) then cs (16 * ef_g hs (f + 1) + (dw_p hs ps f X Y).toNatClampNeg) else k
/-- the numbers of a frame, small -/
theorem dw_g {c : rl_M} {m : Int32} {hs cs ps : rl_A} (hR : rb_R c m hs cs ps) (hf : (f : Int) < m.toInt) : ∃ W H fx fy fw fh : Nat, hs 2 = Int32.ofNat W ∧ hs 3 = Int32.ofNat H ∧ hs (9 * (f + 1)) = Int32.ofNat fx ∧ hs (9 * (f + 1) + 1) = Int32.ofNat fy ∧ hs (9 * (f + 1) + 2) = Int32.ofNat fw ∧ hs (9 * (f + 1) + 3) = Int32.ofNat fh ∧ (1 ≤ W ∧ W ≤ 8) ∧ (1 ≤ H ∧ H ≤ 8) ∧ fx ≤ 7 ∧ fy ≤ 7 ∧ (1 ≤ fw ∧ fw ≤ 8) ∧ (1 ≤ fh ∧ fh ≤ 8) ∧ f < 4 := by
  obtain ⟨hm, -, -, -, h2, h3, -, -, -, hF⟩ := hR
  obtain ⟨-, -, a1, a2, a3, a4, -⟩ := hF f hf
  obtain ⟨W, e1, b1, -⟩ := on_get (v := hs 2) (by omega)
  obtain ⟨H, e2, b2, -⟩ := on_get (v := hs 3) (by omega)
  obtain ⟨fx, e3, b3, -⟩ := on_get (v := hs (9 * (f + 1))) (by omega)
  obtain ⟨fy, e4, b4, -⟩ := on_get (v := hs (9 * (f + 1) + 1)) (by omega)
  obtain ⟨fw, e5, b5, -⟩ := on_get (v := hs (9 * (f + 1) + 2)) (by omega)
  obtain ⟨fh, e6, b6, -⟩ := on_get (v := hs (9 * (f + 1) + 3)) (by omega)
  exact ⟨W, H, fx, fy, fw, fh, e1, e2, e3, e4, e5, e6, by omega, by omega, by omega, by omega, by omega, by omega, by omega⟩
/-- the palette's colours, as the class has them -/
def dw_c (I : rl_M) (a3 f : Nat) : Prop := ∀ k : Nat, (k : Int) < (rb_n (I 85) f).toInt → I (a3 + 1) k = I 86 (16 * ef_g (I 85) (f + 1) + k)
theorem dc_one {a3 : Nat} (hr : is_R r) (hR : rb_R (rl_v r I) (I 84 1) (I 85) (I 86) (I 87)) (hf : (f : Int) < (I 84 1).toInt) (h3 : is_P a3) (hc : dw_c I a3 f)
    (hk : ∀ M, (∀ b, ¬ b = 12 → M b = I b) → (∀ X Y : Nat, X < 8 → Y < 8 → M 12 (8 * Y + X) = dw_v (I 85) (I 86) (I 87) f X Y (I 12 (8 * Y + X))) → Q (.inl none) (M, J, rf_w r, sh_w N, n)) :
    mc_WP (mc_en 130 [.ref 11, .ref r, .ref (r + 4 + 4 * f), .ref a3] (I, J, rf_w r, sh_w N, n)) Q := by
  obtain ⟨W, H, fx, fy, fw, fh, e1, e2, e3, e4, e5, e6, g1, g2, g3, g4, g5, g6, hf4⟩ := dw_g hR hf
  have hb := is_Rb hr
  have hF := hR.2.2.2.2.2.2.2.2.2 f hf
  have hFp : is_F (r + 4 + 4 * f) := is_Ff hr hf4
  have c2 : I r 2 = Int32.ofNat W := by have := hR.2.2.1; rw [rl_v0 _ _ _ _ (by decide)] at this; rw [← e1]; exact this
  have c3 : I r 3 = Int32.ofNat H := by have := hR.2.2.2.1; rw [rl_v0 _ _ _ _ (by decide)] at this; rw [← e2]; exact this
  have d2 : I (r + 4 + 4 * f) 2 = Int32.ofNat fx := by rw [fv_0 (I := I) hf4, ← e3]; exact hF.1 0 (by decide)
  have d3 : I (r + 4 + 4 * f) 3 = Int32.ofNat fy := by rw [fv_0 (I := I) hf4, ← e4]; exact hF.1 1 (by decide)
  have d4 : I (r + 4 + 4 * f) 4 = Int32.ofNat fw := by rw [fv_0 (I := I) hf4, ← e5]; exact hF.1 2 (by decide)
  have d5 : I (r + 4 + 4 * f) 5 = Int32.ofNat fh := by rw [fv_0 (I := I) hf4, ← e6]; exact hF.1 3 (by decide)
  have d8 : I (r + 4 + 4 * f) 8 = I 85 (9 * (f + 1) + 7) := by rw [fv_0 (I := I) hf4]; exact hF.2.1 2 (by decide)
  have hpx : ∀ y x : Nat, y < fh → x < fw → I (r + 4 + 4 * f + 1) (8 * y + x) = I 87 (64 * f + 8 * y + x) ∧ 0 ≤ (I 87 (64 * f + 8 * y + x)).toInt ∧ (I 87 (64 * f + 8 * y + x)).toInt < (rb_n (I 85) f).toInt := fun y x hy hx => by
    have := (hF.2.2.2.2.2.2.2.2.2.2.2 y (by omega) x (by omega)).1 (by rw [e5, e6, on_t (by omega), on_t (by omega)]; omega)
    rw [fv_1 (I := I) hf4]
    exact this
  have h16 := (fr_nm hR hF).2.2.2
  have hdw : ∀ X Y : Nat, dw_in (I 85) f X Y ↔ (X < W ∧ Y < H) ∧ (fx ≤ X ∧ X < fx + fw) ∧ fy ≤ Y ∧ Y < fy + fh := fun X Y => by
    unfold dw_in
    rw [e1, e2, e3, e4, e5, e6, on_t (by omega), on_t (by omega), on_t (by omega), on_t (by omega), on_t (by omega), on_t (by omega)]
    omega
  have hdp : ∀ X Y : Nat, dw_p (I 85) (I 87) f X Y = I 87 (64 * f + 8 * (Y - fy) + (X - fx)) := fun X Y => by
    unfold dw_p
    rw [e3, e4, on_t (by omega), on_t (by omega)]
    rfl
  have hp3 : ¬ a3 + 1 = 12 := fun q => by
    have q' : a3 = 11 := by omega
    subst q'
    revert h3
    decide
  refine bk_130_0 hr hFp h3 ?_
  rw [c2, c3, d2, d3, d4, d5]
  generalize hx4 : (if Int32.ofNat W - Int32.ofNat fx < Int32.ofNat fw then Int32.ofNat W - Int32.ofNat fx else Int32.ofNat fw) = x4
  generalize hx5 : (if Int32.ofNat H - Int32.ofNat fy < Int32.ofNat fh then Int32.ofNat H - Int32.ofNat fy else Int32.ofNat fh) = x5
  have mn : ∀ (A B C : Nat), A ≤ 8 → B ≤ 8 → C ≤ 8 → ∀ z : Int32, (if Int32.ofNat A - Int32.ofNat B < Int32.ofNat C then Int32.ofNat A - Int32.ofNat B else Int32.ofNat C) = z → ∀ x : Nat, x ≤ 8 → (z ≤ Int32.ofNat x ↔ (if A < B + C then A - B else C) ≤ x) := by
    intro A B C hA hB hC z hz x hx
    have t : (Int32.ofNat A - Int32.ofNat B).toInt = (A : Int) - B := by
      rw [Int32.toInt_sub, on_t (by omega), on_t (by omega), Int.bmod_def]
      omega
    rw [← hz]
    by_cases q : (A : Int) - B < C
    · rw [if_pos (by rw [Int32.lt_iff_toInt_lt, t, on_t (by omega)]; exact q), if_pos (by omega), Int32.le_iff_toInt_le, t, on_t (by omega)]
      omega
    · rw [if_neg (by rw [Int32.lt_iff_toInt_lt, t, on_t (by omega)]; exact q), if_neg (by omega), Int32.le_iff_toInt_le, on_t (by omega), on_t (by omega)]
      omega
  have m4 := mn W fx fw (by omega) (by omega) (by omega) x4 hx4
  have m5 := mn H fy fh (by omega) (by omega) (by omega) x5 hx5
  generalize hcw : (if W < fx + fw then W - fx else fw) = cw at m4
  generalize hch : (if H < fy + fh then H - fy else fh) = ch at m5
  have ecw : cw ≤ fw ∧ cw ≤ 8 ∧ fx + cw ≤ 8 ∨ cw = 0 := by split at hcw <;> omega
  have ech : ch ≤ fh ∧ ch ≤ 8 ∧ fy + ch ≤ 8 ∨ ch = 0 := by split at hch <;> omega
  have hdw2 : ∀ X Y : Nat, dw_in (I 85) f X Y ↔ (fx ≤ X ∧ X < fx + cw) ∧ fy ≤ Y ∧ Y < fy + ch := fun X Y => by
    rw [hdw]
    split at hcw <;> split at hch <;> omega
  -- what has been drawn before the row y, the column x
  let T : Nat → Nat → Int32 := fun X Y => dw_v (I 85) (I 86) (I 87) f X Y (I 12 (8 * Y + X))
  let P : Nat → Nat → rl_M → Prop := fun y x M => (∀ b, ¬ b = 12 → M b = I b) ∧ ∀ X Y : Nat, X < 8 → Y < 8 → M 12 (8 * Y + X) = if fy ≤ Y ∧ fx ≤ X ∧ X < fx + cw ∧ (Y < fy + y ∨ (Y = fy + y ∧ X < fx + x)) then T X Y else I 12 (8 * Y + X)
  refine lp_go (C := fun y (i : rl_M × Value × Value) => (130, 39, [.ref 11, .ref r, .ref (r + 4 + 4 * f), .ref a3, .int x4, .int x5, .int (Int32.ofNat y), i.2.1, i.2.2], [], (i.1, J, rf_w r, sh_w N, n), (0, 0))) (P := fun y i => P y 0 i.1) ch (I, .null, .null) ⟨fun _ _ => rfl, fun X Y _ _ => by rw [if_neg (by omega)]⟩ ?_ ?_
  · intro y hy ⟨M, z7, z8⟩ hP next
    refine bk_130_39 hr hFp h3 ⟨fun q => absurd ((m5 y (by omega)).mp q) (by omega), fun _ => ?_⟩
    refine lp_go (C := fun x (i : rl_M × Value) => (130, 49, [.ref 11, .ref r, .ref (r + 4 + 4 * f), .ref a3, .int x4, .int x5, .int (Int32.ofNat y), .int (Int32.ofNat x), i.2], [], (i.1, J, rf_w r, sh_w N, n), (0, 0))) (P := fun x i => P y x i.1) cw (M, z8) hP ?_ ?_
    · intro x hx ⟨M, z8⟩ ⟨hM, hK⟩ nx
      dsimp only at hM hK ⊢
      have hpix := hpx y x (by omega) (by omega)
      have q87 : dw_p (I 85) (I 87) f (fx + x) (fy + y) = I 87 (64 * f + 8 * y + x) := by
        rw [hdp]
        congr 1
        omega
      have hin : dw_in (I 85) f (fx + x) (fy + y) := (hdw2 _ _).mpr (by omega)
      have step : ∀ M', (∀ b, ¬ b = 12 → M' b = M b) → (∀ X Y : Nat, X < 8 → Y < 8 → M' 12 (8 * Y + X) = if X = fx + x ∧ Y = fy + y then T (fx + x) (fy + y) else M 12 (8 * Y + X)) → P y (x + 1) M' := by
        intro M' h1 h2
        refine ⟨fun b hb => (h1 b hb).trans (hM b hb), fun X Y hX hY => ?_⟩
        rw [h2 X Y hX hY, hK X Y hX hY]
        by_cases q : X = fx + x ∧ Y = fy + y
        · rw [if_pos q, if_pos (by omega), q.1, q.2]
        · rw [if_neg q]
          by_cases q2 : fy ≤ Y ∧ fx ≤ X ∧ X < fx + cw ∧ (Y < fy + y ∨ Y = fy + y ∧ X < fx + x)
          · rw [if_pos q2, if_pos (by omega)]
          · rw [if_neg q2, if_neg (by omega)]
      refine bk_130_49 hr hFp h3 ⟨fun q => absurd ((m4 x (by omega)).mp q) (by omega), fun _ => ?_⟩
      rw [on_8, on_n (by omega), hM (r + 4 + 4 * f + 1) (by omega), hM (r + 4 + 4 * f) (by omega), hM (a3 + 1) hp3, hpix.1, d8, d2, d3, on_1, ← Int32.ofNat_add, ← Int32.ofNat_add, on_8, on_n (by omega)]
      refine ⟨on_vp (by omega) (by omega), fun q => ?_, fun q => ⟨?_, on_vp (by omega) (by omega), ?_⟩⟩
      · refine nx (M, _) (step M (fun _ _ => rfl) fun X Y hX hY => ?_)
        by_cases q2 : X = fx + x ∧ Y = fy + y
        · rw [if_pos q2, q2.1, q2.2, hK _ _ (by omega) (by omega), if_neg (by omega)]
          show _ = dw_v (I 85) (I 86) (I 87) f (fx + x) (fy + y) _
          unfold dw_v
          rw [if_neg (fun z => z.2 (by rw [q87]; exact q))]
        · rw [if_neg q2]
      · rw [vp_iff]; omega
      · refine nx (_, _) (step _ (fun b hb => up_ne hb) fun X Y hX hY => ?_)
        show mc_up M 12 (8 * (fy + y) + (fx + x)) (I (a3 + 1) (I 87 (64 * f + 8 * y + x)).toNatClampNeg) 12 (8 * Y + X) = _
        rw [up_row]
        dsimp only
        by_cases q2 : X = fx + x ∧ Y = fy + y
        · rw [if_pos q2, if_pos (by omega)]
          show _ = dw_v (I 85) (I 86) (I 87) f (fx + x) (fy + y) _
          unfold dw_v
          rw [if_pos ⟨hin, by rw [q87]; exact q⟩, q87]
          refine hc _ ?_
          rw [i3_tn]
          omega
        · rw [if_neg q2, if_neg (by omega)]
    · intro ⟨M, z8⟩ ⟨hM, hK⟩
      dsimp only at hM hK ⊢
      refine bk_130_49 hr hFp h3 ⟨fun _ => ?_, fun q => absurd ((m4 cw (by omega)).mpr (Nat.le_refl _)) q⟩
      rw [on_1]
      refine next (M, _, _) ⟨hM, fun X Y hX hY => ?_⟩
      dsimp only
      rw [hK X Y hX hY]
      by_cases q2 : fy ≤ Y ∧ fx ≤ X ∧ X < fx + cw ∧ (Y < fy + y ∨ Y = fy + y ∧ X < fx + cw)
      · rw [if_pos q2, if_pos (by omega)]
      · rw [if_neg q2, if_neg (by omega)]
  · intro ⟨M, z7, z8⟩ ⟨hM, hK⟩
    dsimp only at hM hK ⊢
    refine bk_130_39 hr hFp h3 ⟨fun _ => hk M hM fun X Y hX hY => ?_, fun q => absurd ((m5 ch (by omega)).mpr (Nat.le_refl _)) q⟩
    rw [hK X Y hX hY]
    by_cases q : dw_in (I 85) f X Y
    · have q2 := (hdw2 X Y).mp q
      rw [if_pos (by omega)]
    · have q2 : ¬ ((fx ≤ X ∧ X < fx + cw) ∧ fy ≤ Y ∧ Y < fy + ch) := fun z => q ((hdw2 X Y).mpr z)
      rw [if_neg (by omega)]
      unfold dw_v
      rw [if_neg (fun z => q z.1)]
end
