/-! draw: the reference's way -/
section
variable {I M : rl_M} {J : Nat → Nat → Int64} {r N n : Nat} {Q : mc_Q} {a b k j f : Nat} {v x1 : Int32} {c : rl_M}
theorem dm_9 {k : Nat} (hf : f < 4) (hk : k ≤ 8) : ((9 : Int32) * (Int32.ofNat f + 1) + Int32.ofNat k).toNatClampNeg = 9 * (f + 1) + k ∧ vp_in ((9 : Int32) * (Int32.ofNat f + 1) + Int32.ofNat k) 45 := by
  rw [on_9]
  exact ⟨on_n (by omega), on_vp (by omega) (by omega)⟩
theorem dm_lies {x y : Nat} (hR : rb_R c (I 84 1) (I 85) (I 86) (I 87)) (hf : (f : Int) < (I 84 1).toInt) (hx : (x : Int) < (I 85 2).toInt) (hy : (y : Int) < (I 85 3).toInt) (hk : ∀ v, (v = 0 ∧ ¬ dw_in (I 85) f x y ∨ v = 1 ∧ dw_in (I 85) f x y) → Q (.inl (some (.int v))) (I, J, rf_w r, sh_w N, n)) :
    mc_WP (mc_en 105 [.ref 84, .int (Int32.ofNat f), .int (Int32.ofNat x), .int (Int32.ofNat y)] (I, J, rf_w r, sh_w N, n)) Q := by
  obtain ⟨W, H, fx, fy, fw, fh, e1, e2, e3, e4, e5, e6, g1, g2, g3, g4, g5, g6, hf4⟩ := dw_g hR hf
  rw [e1, on_t (by omega)] at hx
  rw [e2, on_t (by omega)] at hy
  have hdw : dw_in (I 85) f x y ↔ (fx ≤ x ∧ x < fx + fw) ∧ fy ≤ y ∧ y < fy + fh := by
    unfold dw_in
    rw [e1, e2, e3, e4, e5, e6, on_t (by omega), on_t (by omega), on_t (by omega), on_t (by omega), on_t (by omega), on_t (by omega)]
    omega
  replace hk : ∀ v, (v = 0 ∧ ¬ ((fx ≤ x ∧ x < fx + fw) ∧ fy ≤ y ∧ y < fy + fh) ∨ v = 1 ∧ ((fx ≤ x ∧ x < fx + fw) ∧ fy ≤ y ∧ y < fy + fh)) → Q (.inl (some (.int v))) (I, J, rf_w r, sh_w N, n) := fun v h => hk v (h.imp (fun z => ⟨z.1, fun q => z.2 (hdw.mp q)⟩) (fun z => ⟨z.1, hdw.mpr z.2⟩))
  have i0 := dm_9 (k := 0) hf4 (by decide)
  have i1 := dm_9 (k := 1) hf4 (by decide)
  have i2 := dm_9 (k := 2) hf4 (by decide)
  have i3 := dm_9 (k := 3) hf4 (by decide)
  rw [show Int32.ofNat 0 = 0 from rfl] at i0
  rw [show Int32.ofNat 1 = 1 from rfl] at i1
  rw [show Int32.ofNat 2 = 2 from rfl] at i2
  rw [show Int32.ofNat 3 = 3 from rfl] at i3
  refine bk_105_0 ?_
  rw [i0.1, i1.1, i2.1, i3.1, Nat.add_zero, e3, e4, e5, e6, ← Int32.ofNat_add, ← Int32.ofNat_add]
  rw [on_lt (by omega) (by omega), on_lt (by omega) (by omega), on_le (by omega) (by omega), on_le (by omega) (by omega)]
  refine ⟨i0.2, fun q => hk 0 (Or.inl ⟨rfl, by omega⟩), fun q => ⟨i0.2, i2.2, fun q2 => hk 0 (Or.inl ⟨rfl, by omega⟩), fun q2 => ⟨i1.2, fun q3 => hk 0 (Or.inl ⟨rfl, by omega⟩), fun q3 => ⟨i1.2, i3.2, fun q4 => hk 0 (Or.inl ⟨rfl, by omega⟩), fun q4 => hk 1 (Or.inr ⟨rfl, by omega⟩)⟩⟩⟩⟩
/-- rows 93 and 94 aside, nothing changes -/
theorem dm_R (hM : ∀ b, ¬ b = 93 → ¬ b = 94 → M b = I b) (hR : rb_R c (I 84 1) (I 85) (I 86) (I 87)) : rb_R c (M 84 1) (M 85) (M 86) (M 87) := by
  rw [hM 84 (by decide) (by decide), hM 85 (by decide) (by decide), hM 86 (by decide) (by decide), hM 87 (by decide) (by decide)]
  exact hR
set_option maxHeartbeats 2000000 in
theorem dm_one (hR : rb_R c (I 84 1) (I 85) (I 86) (I 87)) (hf : (f : Int) < (I 84 1).toInt)
    (hk : ∀ M, (∀ b, ¬ b = 93 → ¬ b = 94 → M b = I b) → (∀ X Y : Nat, X < 8 → Y < 8 → M 93 (8 * Y + X) = dw_v (I 85) (I 86) (I 87) f X Y (I 93 (8 * Y + X)) ∧ ((X : Int) < (I 85 2).toInt → (Y : Int) < (I 85 3).toInt → M 94 (8 * Y + X) = I 93 (8 * Y + X))) → Q (.inl none) (M, J, rf_w r, sh_w N, n)) :
    mc_WP (mc_en 106 [.ref 84, .int (Int32.ofNat f)] (I, J, rf_w r, sh_w N, n)) Q := by
  obtain ⟨W, H, fx, fy, fw, fh, e1, e2, e3, e4, e5, e6, g1, g2, g3, g4, g5, g6, hf4⟩ := dw_g hR hf
  have hF := hR.2.2.2.2.2.2.2.2.2 f hf
  have hpx : ∀ y x : Nat, y < fh → x < fw → 0 ≤ (I 87 (64 * f + 8 * y + x)).toInt ∧ (I 87 (64 * f + 8 * y + x)).toInt < (rb_n (I 85) f).toInt := fun y x hy hx => by
    have := (hF.2.2.2.2.2.2.2.2.2.2.2 y (by omega) x (by omega)).1 (by rw [e5, e6, on_t (by omega), on_t (by omega)]; omega)
    exact this.2
  have w2 : (I 85 2).toInt = W := by rw [e1, on_t (by omega)]
  have w3 : (I 85 3).toInt = H := by rw [e2, on_t (by omega)]
  have hdw : ∀ X Y : Nat, dw_in (I 85) f X Y ↔ (X < W ∧ Y < H) ∧ (fx ≤ X ∧ X < fx + fw) ∧ fy ≤ Y ∧ Y < fy + fh := fun X Y => by
    unfold dw_in
    rw [e1, e2, e3, e4, e5, e6, on_t (by omega), on_t (by omega), on_t (by omega), on_t (by omega), on_t (by omega), on_t (by omega)]
    omega
  have hdp : ∀ X Y : Nat, dw_p (I 85) (I 87) f X Y = I 87 (64 * f + 8 * (Y - fy) + (X - fx)) := fun X Y => by
    unfold dw_p
    rw [e3, e4, on_t (by omega), on_t (by omega)]
    rfl
  have i7 := dm_9 (k := 7) hf4 (by decide)
  have i0 := dm_9 (k := 0) hf4 (by decide)
  have i1 := dm_9 (k := 1) hf4 (by decide)
  rw [show Int32.ofNat 0 = 0 from rfl, Nat.add_zero] at i0
  rw [show Int32.ofNat 1 = 1 from rfl] at i1
  rw [show Int32.ofNat 7 = 7 from rfl] at i7
  let T : Nat → Nat → Int32 := fun X Y => dw_v (I 85) (I 86) (I 87) f X Y (I 93 (8 * Y + X))
  let P : Nat → Nat → rl_M → Prop := fun y x M => (∀ b, ¬ b = 93 → ¬ b = 94 → M b = I b) ∧ ∀ X Y : Nat, X < 8 → Y < 8 → (M 93 (8 * Y + X) = if X < W ∧ (Y < y ∨ (Y = y ∧ X < x)) then T X Y else I 93 (8 * Y + X)) ∧ (X < W ∧ (Y < y ∨ (Y = y ∧ X < x)) → M 94 (8 * Y + X) = I 93 (8 * Y + X))
  refine bk_106_0 ?_
  refine lp_go (C := fun y (i : rl_M × Value × Value) => (106, 9, [.ref 84, .int (Int32.ofNat f), .int ((9 : Int32) * (Int32.ofNat f + 1)), .int (Int32.ofNat y), i.2.1, i.2.2], [], (i.1, J, rf_w r, sh_w N, n), (0, 0))) (P := fun y i => P y 0 i.1) H (I, .null, .null) ⟨fun _ _ _ => rfl, fun X Y _ _ => ⟨by rw [if_neg (by omega)], fun q => by omega⟩⟩ ?_ ?_
  · intro y hy ⟨M, z4, z5⟩ hP next
    dsimp only at hP next ⊢
    refine bk_106_9 ?_
    rw [hP.1 85 (by decide) (by decide), e2]
    refine ⟨fun q => absurd ((on_le (by omega) (by omega)).mp q) (by omega), fun _ => ?_⟩
    refine lp_go (C := fun x (i : rl_M × Value) => (106, 22, [.ref 84, .int (Int32.ofNat f), .int ((9 : Int32) * (Int32.ofNat f + 1)), .int (Int32.ofNat y), .int (Int32.ofNat x), i.2], [], (i.1, J, rf_w r, sh_w N, n), (0, 0))) (P := fun x i => P y x i.1) W (M, z5) hP ?_ ?_
    · intro x hx ⟨M, z5⟩ ⟨hM, hK⟩ nx
      dsimp only at hM hK nx ⊢
      have m85 := hM 85 (by decide) (by decide)
      refine bk_106_22 ?_
      rw [m85, e1]
      refine ⟨fun q => absurd ((on_le (by omega) (by omega)).mp q) (by omega), fun _ => ?_⟩
      rw [on_8', on_n (by omega)]
      refine ⟨on_vp (by omega) (by omega), on_vp (by omega) (by omega), mc_inl ?_⟩
      have k93 : M 93 (8 * y + x) = I 93 (8 * y + x) := by rw [(hK x y (by omega) (by omega)).1, if_neg (by omega)]
      -- the memory once the place is kept
      generalize hL : mc_up M 94 (8 * y + x) (M 93 (8 * y + x)) = L
      have hLr : ∀ b, ¬ b = 93 → ¬ b = 94 → L b = I b := fun b h1 h2 => by rw [← hL, up_ne h2]; exact hM b h1 h2
      have hL93 : L 93 = M 93 := by rw [← hL, up_ne (by decide)]
      have l85 := hLr 85 (by decide) (by decide)
      have l87 := hLr 87 (by decide) (by decide)
      have hRL := dm_R hLr hR
      have hfl : (f : Int) < (L 84 1).toInt := by rw [hLr 84 (by decide) (by decide)]; exact hf
      have fin : ∀ (w : Int32) (z : Value), w = T x y → mc_WP (106, 22, [.ref 84, .int (Int32.ofNat f), .int ((9 : Int32) * (Int32.ofNat f + 1)), .int (Int32.ofNat y), .int (Int32.ofNat (x + 1)), z], [], (mc_up L 93 (8 * y + x) w, J, rf_w r, sh_w N, n), (0, 0)) Q := by
        intro w z hw
        refine nx (_, z) ⟨fun b h1 h2 => (up_ne h1).trans (hLr b h1 h2), fun X Y hX hY => ⟨?_, fun q => ?_⟩⟩
        · show mc_up L 93 (8 * y + x) w 93 (8 * Y + X) = _
          rw [up_row]
          dsimp only
          by_cases q2 : X = x ∧ Y = y
          · rw [if_pos (by omega), if_pos (by omega), hw, q2.1, q2.2]
          · rw [if_neg (by omega), hL93, (hK X Y hX hY).1]
            by_cases q : X < W ∧ (Y < y ∨ Y = y ∧ X < x)
            · rw [if_pos q, if_pos (by omega)]
            · rw [if_neg q, if_neg (by omega)]
        · show mc_up L 93 (8 * y + x) w 94 (8 * Y + X) = _
          rw [up_ne (by decide), ← hL, up_row]
          dsimp only
          by_cases q2 : X = x ∧ Y = y
          · rw [if_pos (by omega), k93, q2.1, q2.2]
          · rw [if_neg (by omega)]
            exact (hK X Y hX hY).2 (by omega)
      refine dm_lies hRL hfl (by rw [l85, w2]; omega) (by rw [l85, w3]; omega) fun v hv => ?_
      rw [l85] at hv
      refine bk_106_65 ?_
      rw [i7.1, i0.1, i1.1, l85, l87, e3, e4]
      refine ⟨fun q => ⟨i7.2, mc_inl ?_⟩, fun q => ⟨i1.2, i0.2, ?_⟩⟩
      · refine dm_lies hRL hfl (by rw [l85, w2]; omega) (by rw [l85, w3]; omega) fun v2 hv2 => ?_
        rw [l85] at hv2
        have hno : ¬ dw_in (I 85) f x y := by
          rcases hv with q1 | q1
          · exact q1.2
          · rw [q1.1] at q; exact absurd q (by decide)
        have hv20 : v2 = 0 := by
          rcases hv2 with q1 | q1
          · exact q1.1
          · exact absurd q1.2 hno
        refine bk_106_136 (b0z := 64) rfl (by decide) ⟨fun _ => ?_, fun q1 => absurd hv20 q1⟩
        rw [on_8', on_n (by omega), on_1 (k := x)]
        refine ⟨on_vp (by omega) (by omega), on_vp (by omega) (by omega), fin _ _ ?_⟩
        rw [hL93, k93]
        show _ = dw_v (I 85) (I 86) (I 87) f x y _
        unfold dw_v
        rw [if_neg (fun z => hno z.1)]
      · have hin : dw_in (I 85) f x y := by
          rcases hv with q1 | q1
          · exact absurd q1.1 q
          · exact q1.2
        have hin2 := (hdw x y).mp hin
        have ix : (64 : Int32) * Int32.ofNat f + 8 * (Int32.ofNat y - Int32.ofNat fy) + Int32.ofNat x - Int32.ofNat fx = Int32.ofNat (64 * f + 8 * (y - fy) + (x - fx)) := by
          rw [on_sub (by omega), show (64 : Int32) * Int32.ofNat f + 8 * Int32.ofNat (y - fy) + Int32.ofNat x = Int32.ofNat (64 * f + 8 * (y - fy) + x) by rw [Int32.ofNat_add, Int32.ofNat_add, Int32.ofNat_mul, Int32.ofNat_mul]; rfl, on_sub (by omega)]
          congr 1
          omega
        have hp := hpx (y - fy) (x - fx) (by omega) (by omega)
        rw [ix, on_n (by omega)]
        refine ⟨on_vp (by omega) (by omega), mc_inl ?_⟩
        refine dm_lies hRL hfl (by rw [l85, w2]; omega) (by rw [l85, w3]; omega) fun v2 hv2 => ?_
        rw [l85] at hv2
        have hv21 : v2 = 1 := by
          rcases hv2 with q1 | q1
          · exact absurd hin q1.2
          · exact q1.1
        refine bk_106_136 (b0z := 64) rfl (by decide) ⟨fun q1 => absurd (hv21.symm.trans q1) (by decide), fun _ => ?_⟩
        rw [i7.1, l85, on_8', on_n (by omega), on_1 (k := x)]
        refine ⟨i7.2, fun q1 => ⟨on_vp (by omega) (by omega), on_vp (by omega) (by omega), fin _ _ ?_⟩, fun q1 => mc_inl ?_⟩
        · rw [hL93, k93]
          show _ = dw_v (I 85) (I 86) (I 87) f x y _
          unfold dw_v
          rw [if_neg (fun z => z.2 (by rw [hdp]; exact q1))]
        · have hfn : (Int32.ofNat f).toNatClampNeg = f := on_n (by omega)
          have hfr : fr_in (I 84 1) (Int32.ofNat f) := ⟨by rw [on_t (by omega)]; omega, by rw [on_t (by omega)]; exact hf⟩
          have hog : ow_g (Int32.ofNat f) = f + 1 := by rw [ow_f hfr.1, hfn]
          have hef : rb_n (I 85) f = rl_cnt (I 85 (9 * ef_g (I 85) (f + 1) + 4)) := by
            unfold rb_n ef_g
            split <;> rfl
          refine cm_colourOf hRL ⟨Or.inr (by rw [hLr 84 (by decide) (by decide)]; exact hfr), hp.1, ?_⟩ ?_
          · rw [hog, l85, ← hef]; exact hp.2
          · refine bk_106_160 (b0z := 64) rfl (by decide) ?_
            rw [on_n (by omega), on_1 (k := x)]
            refine ⟨on_vp (by omega) (by omega), fin _ _ ?_⟩
            rw [hog, l85, hLr 86 (by decide) (by decide)]
            show _ = dw_v (I 85) (I 86) (I 87) f x y _
            unfold dw_v
            rw [if_pos ⟨hin, by rw [hdp]; exact q1⟩, hdp]
    · intro ⟨M, z5⟩ ⟨hM, hK⟩
      dsimp only at hM hK ⊢
      refine bk_106_22 ?_
      rw [hM 85 (by decide) (by decide), e1]
      refine ⟨fun _ => ?_, fun q => absurd ((on_le (by omega) (by omega)).mpr (Nat.le_refl _)) q⟩
      rw [on_1 (k := y)]
      refine next (M, _, _) ⟨hM, fun X Y hX hY => ⟨?_, fun q => (hK X Y hX hY).2 (by omega)⟩⟩
      dsimp only
      rw [(hK X Y hX hY).1]
      by_cases q : X < W ∧ (Y < y ∨ Y = y ∧ X < W)
      · rw [if_pos q, if_pos (by omega)]
      · rw [if_neg q, if_neg (by omega)]
  · intro ⟨M, z4, z5⟩ ⟨hM, hK⟩
    dsimp only at hM hK ⊢
    refine bk_106_9 ?_
    rw [hM 85 (by decide) (by decide), e2]
    refine ⟨fun _ => hk M hM fun X Y hX hY => ⟨?_, fun q1 q2 => (hK X Y hX hY).2 (by omega)⟩, fun q => absurd ((on_le (by omega) (by omega)).mpr (Nat.le_refl _)) q⟩
    rw [(hK X Y hX hY).1]
    by_cases q : X < W ∧ (Y < H ∨ Y = H ∧ X < 0)
    · rw [if_pos q]
    · rw [if_neg q]
      unfold dw_v
      rw [if_neg (fun z => by have := (hdw X Y).mp z.1; omega)]
end
