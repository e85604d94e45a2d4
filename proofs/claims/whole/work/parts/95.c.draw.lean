/-! draw: the class's whole way -/
section
variable {I M : rl_M} {J : Nat → Nat → Int64} {r N n : Nat} {Q : mc_Q} {a b k j f : Nat} {v x1 : Int32}
theorem dc_clear (hr : is_R r) (hR : rb_R (rl_v r I) (I 84 1) (I 85) (I 86) (I 87)) (hf : (f : Int) < (I 84 1).toInt)
    (hk : ∀ M, (∀ b, ¬ b = 12 → M b = I b) → (∀ X Y : Nat, X < 8 → Y < 8 → M 12 (8 * Y + X) = if dw_in (I 85) f X Y then -1 else I 12 (8 * Y + X)) → Q (.inl none) (M, J, rf_w r, sh_w N, n)) :
    mc_WP (mc_en 132 [.ref 11, .ref r, .ref (r + 4 + 4 * f)] (I, J, rf_w r, sh_w N, n)) Q := by
  obtain ⟨W, H, fx, fy, fw, fh, e1, e2, e3, e4, e5, e6, g1, g2, g3, g4, g5, g6, hf4⟩ := dw_g hR hf
  have hb := is_Rb hr
  have hF := hR.2.2.2.2.2.2.2.2.2 f hf
  have hFp : is_F (r + 4 + 4 * f) := is_Ff hr hf4
  have c2 : I r 2 = Int32.ofNat W := by have := hR.2.2.1; rw [rl_v0 _ _ _ _ (by decide)] at this; rw [← e1]; exact this
  have c3 : I r 3 = Int32.ofNat H := by have := hR.2.2.2.1; rw [rl_v0 _ _ _ _ (by decide)] at this; rw [← e2]; exact this
  have d2 : I (r + 4 + 4 * f) 2 = Int32.ofNat fx := by rw [fv_0 (I := I) hf4, ← e3]; exact hF.1 0 (by decide)
  have d3 : I (r + 4 + 4 * f) 3 = Int32.ofNat fy := by rw [fv_0 (I := I) hf4, ← e4]; exact hF.1 1 (by decide)
  have d4 : I (r + 4 + 4 * f) 4 = Int32.ofNat fw := by rw [fv_0 (I := I) hf4, ← e5]; exact hF.1 2 (by decide)
  have d5 : I (r + 4 + 4 * f) 5 = Int32.ofNat fh := by rw [fv_0 (I := I) hf4, ← e6]; exact hF.1 3 (by decide)
  have hdw : ∀ X Y : Nat, dw_in (I 85) f X Y ↔ (X < W ∧ Y < H) ∧ (fx ≤ X ∧ X < fx + fw) ∧ fy ≤ Y ∧ Y < fy + fh := fun X Y => by
    unfold dw_in
    rw [e1, e2, e3, e4, e5, e6, on_t (by omega), on_t (by omega), on_t (by omega), on_t (by omega), on_t (by omega), on_t (by omega)]
    omega
  refine bk_132_0 hr hFp ?_
  rw [c2, c3, d2, d3, d4, d5, ← Int32.ofNat_add, ← Int32.ofNat_add]
  have mn : ∀ (A B : Nat), A ≤ 16 → B ≤ 16 → ∃ m : Nat, (m ≤ A ∧ m ≤ B ∧ (m = A ∨ m = B)) ∧ (if Int32.ofNat A < Int32.ofNat B then Int32.ofNat A else Int32.ofNat B) = Int32.ofNat m := by
    intro A B hA hB
    by_cases q : A < B
    · exact ⟨A, by omega, if_pos ((on_lt (by omega) (by omega)).mpr q)⟩
    · exact ⟨B, by omega, if_neg (fun z => q ((on_lt (by omega) (by omega)).mp z))⟩
  obtain ⟨ex, hx, qx⟩ := mn W (fx + fw) (by omega) (by omega)
  obtain ⟨ey, hy, qy⟩ := mn H (fy + fh) (by omega) (by omega)
  rw [qx, qy]
  have hdw2 : ∀ X Y : Nat, dw_in (I 85) f X Y ↔ (fx ≤ X ∧ X < ex) ∧ fy ≤ Y ∧ Y < ey := fun X Y => by
    rw [hdw]
    omega
  let P : Nat → Nat → rl_M → Prop := fun y x M => (∀ b, ¬ b = 12 → M b = I b) ∧ ∀ X Y : Nat, X < 8 → Y < 8 → M 12 (8 * Y + X) = if fy ≤ Y ∧ fx ≤ X ∧ X < ex ∧ (Y < fy + y ∨ (Y = fy + y ∧ X < fx + x)) then -1 else I 12 (8 * Y + X)
  refine lp_go (C := fun y (i : rl_M × Value) => (132, 41, [.ref 11, .ref r, .ref (r + 4 + 4 * f), .int (Int32.ofNat ex), .int (Int32.ofNat ey), .int (Int32.ofNat (fy + y)), i.2], [], (i.1, J, rf_w r, sh_w N, n), (0, 0))) (P := fun y i => P y 0 i.1) (ey - fy) (I, .null) ⟨fun _ _ => rfl, fun X Y _ _ => by rw [if_neg (by omega)]⟩ ?_ ?_
  · intro y hy2 ⟨M, z7⟩ hP next
    dsimp only at hP next ⊢
    refine bk_132_41 hr hFp ⟨fun q => absurd ((on_le (by omega) (by omega)).mp q) (by omega), fun _ => ?_⟩
    rw [hP.1 (r + 4 + 4 * f) (by omega), d2]
    refine lp_go (C := fun x (M : rl_M) => (132, 54, [.ref 11, .ref r, .ref (r + 4 + 4 * f), .int (Int32.ofNat ex), .int (Int32.ofNat ey), .int (Int32.ofNat (fy + y)), .int (Int32.ofNat (fx + x))], [], (M, J, rf_w r, sh_w N, n), (0, 0))) (P := fun x M => P y x M) (ex - fx) M hP ?_ ?_
    · intro x hx2 M ⟨hM, hK⟩ nx
      try dsimp only at hM hK nx ⊢
      refine bk_132_54 hr hFp ⟨fun q => absurd ((on_le (by omega) (by omega)).mp q) (by omega), fun _ => ?_⟩
      rw [on_8, on_n (by omega), on_1]
      refine ⟨on_vp (by omega) (by omega), nx _ ⟨fun b hb => (up_ne hb).trans (hM b hb), fun X Y hX hY => ?_⟩⟩
      rw [up_row]
      dsimp only
      by_cases q2 : X = fx + x ∧ Y = fy + y
      · rw [if_pos (by omega), if_pos (by omega)]
      · rw [if_neg (by omega), hK X Y hX hY]
        by_cases q : fy ≤ Y ∧ fx ≤ X ∧ X < ex ∧ (Y < fy + y ∨ Y = fy + y ∧ X < fx + x)
        · rw [if_pos q, if_pos (by omega)]
        · rw [if_neg q, if_neg (by omega)]
    · intro M ⟨hM, hK⟩
      try dsimp only at hM hK ⊢
      refine bk_132_54 hr hFp ⟨fun _ => ?_, fun q => absurd ((on_le (by omega) (by omega)).mpr (by omega)) q⟩
      rw [on_1]
      refine next (M, _) ⟨hM, fun X Y hX hY => ?_⟩
      dsimp only
      rw [hK X Y hX hY]
      by_cases q : fy ≤ Y ∧ fx ≤ X ∧ X < ex ∧ (Y < fy + y ∨ Y = fy + y ∧ X < fx + (ex - fx))
      · rw [if_pos q, if_pos (by omega)]
      · rw [if_neg q, if_neg (by omega)]
  · intro ⟨M, z7⟩ ⟨hM, hK⟩
    dsimp only at hM hK ⊢
    refine bk_132_41 hr hFp ⟨fun _ => hk M hM fun X Y hX hY => ?_, fun q => absurd ((on_le (by omega) (by omega)).mpr (by omega)) q⟩
    rw [hK X Y hX hY]
    by_cases q : dw_in (I 85) f X Y
    · have q2 := (hdw2 X Y).mp q
      rw [if_pos q, if_pos (by omega)]
    · have q2 : ¬ ((fx ≤ X ∧ X < ex) ∧ fy ≤ Y ∧ Y < ey) := fun z => q ((hdw2 X Y).mpr z)
      rw [if_neg q, if_neg (by omega)]
/-- what becomes of a point when a frame is done -/
def dd_v (hs : rl_A) (f X Y : Nat) (k s : Int32) : Int32 := if hs (9 * (f + 1) + 5) = 2 then (if dw_in hs f X Y then -1 else k) else if hs (9 * (f + 1) + 5) = 3 then s else k
theorem dc_disp (hr : is_R r) (hR : rb_R (rl_v r I) (I 84 1) (I 85) (I 86) (I 87)) (hf : (f : Int) < (I 84 1).toInt)
    (hk : ∀ M, (∀ b, ¬ b = 12 → M b = I b) → (∀ X Y : Nat, X < 8 → Y < 8 → M 12 (8 * Y + X) = dd_v (I 85) f X Y (I 12 (8 * Y + X)) (I 13 (8 * Y + X))) → Q (.inl none) (M, J, rf_w r, sh_w N, n)) :
    mc_WP (mc_en 131 [.ref 11, .ref r, .ref (r + 4 + 4 * f)] (I, J, rf_w r, sh_w N, n)) Q := by
  have hf4 : f < 4 := by have := hR.1; omega
  have hF := hR.2.2.2.2.2.2.2.2.2 f hf
  have hFp : is_F (r + 4 + 4 * f) := is_Ff hr hf4
  have d6 : I (r + 4 + 4 * f) 6 = I 85 (9 * (f + 1) + 5) := by rw [fv_0 (I := I) hf4]; exact hF.2.1 0 (by decide)
  unfold dd_v at hk
  refine bk_131_0 hr hFp ?_
  rw [d6]
  refine ⟨fun q => ⟨fun q2 => hk I (fun _ _ => rfl) (fun X Y _ _ => by rw [if_neg q, if_neg q2]), fun q2 => hk _ (fun b hb => ?_) (fun X Y hX hY => ?_)⟩, fun q => mc_inl (dc_clear hr hR hf fun M hM hK => bk_131_14 hr hFp (hk M hM fun X Y hX hY => ?_))⟩
  · funext j
    unfold mc_cpy
    rw [if_neg (fun z => hb z.1)]
  · rw [if_neg q, if_pos (Classical.not_not.mp q2)]
    unfold mc_cpy
    rw [if_pos ⟨rfl, by omega, by omega⟩]
    congr 1
    omega
  · rw [if_pos (Classical.not_not.mp q)]
    exact hK X Y hX hY
/-- a point of the canvas behind so many frames: shown, saved -/
def dp_v (hs cs ps : rl_A) (X Y : Nat) : Nat → Int32 × Int32
  | 0 => (-1, -1)
  | i + 1 => (dw_v hs cs ps i X Y (if i = 0 then (dp_v hs cs ps X Y i).1 else dd_v hs (i - 1) X Y (dp_v hs cs ps X Y i).1 (dp_v hs cs ps X Y i).2), if i = 0 then (dp_v hs cs ps X Y i).1 else dd_v hs (i - 1) X Y (dp_v hs cs ps X Y i).1 (dp_v hs cs ps X Y i).2)
/-- the class's palettes of a frame -/
theorem dw_pal (hr : is_R r) (hR : rb_R (rl_v r I) (I 84 1) (I 85) (I 86) (I 87)) (hf : (f : Int) < (I 84 1).toInt) :
    (I (r + 4 + 4 * f + 2) 1 ≤ 0 → dw_c I (r + 1) f) ∧ (¬ I (r + 4 + 4 * f + 2) 1 ≤ 0 → dw_c I (r + 4 + 4 * f + 2) f) := by
  have hf4 : f < 4 := by have := hR.1; omega
  have hF := hR.2.2.2.2.2.2.2.2.2 f hf
  obtain ⟨q1, q2, -, -, q5, q6⟩ := fr_n hR hf4 hF
  have h9 := hR.2.2.2.2.2.2.2.2.1
  have hp := hF.2.2.2.2.2.2.2.2.2.2.1
  have p1 : I (r + 4 + 4 * f + 2) 1 = rl_cnt (I 85 (9 * (f + 1) + 4)) := by rw [fv_2 (I := I) hf4]; exact hp.2.1
  have p3 := cnt_b hp.1
  constructor
  · intro q k hk
    have z : I 85 (9 * (f + 1) + 4) = 0 := Classical.byContradiction fun z => by
      have := (p3.2.2.2 z).2
      rw [p1, Int32.le_iff_toInt_le, i3_0] at q
      omega
    have := (h9.2.2 k (by omega)).1
    rw [rl_v0 _ _ _ _ (by decide)] at this
    unfold ef_g
    rw [if_pos z]
    exact this
  · intro q k hk
    have z : ¬ I 85 (9 * (f + 1) + 4) = 0 := fun z => by
      rw [p1, p3.2.2.1 z] at q
      exact q (by decide)
    unfold ef_g
    rw [if_neg z, fv_3 (I := I) hf4]
    exact (hp.2.2 k (by omega)).1
end
