section
variable {I M M' M0 : rl_M} {J : Nat → Nat → Int64} {r N n : Nat} {Q : mc_Q} {mn : Nat → Int32} {pc : rl_A} {c v mode a x1 x3 x5 : Int32} {nb k b x y W H f a1 : Nat} {E O : rl_A}
def cm_P (M0 : rl_M) (f : Nat) (s : rl_A × rl_A) (M : rl_M) : Prop := (∀ b, ¬ b = 104 → ¬ b = 87 → M b = M0 b) ∧ (∀ k, k < 192 → M 104 k = s.1 k) ∧ (∀ j, j < 64 → M 87 (64 * f + j) = s.2 j) ∧ ∀ j, ¬ (64 * f ≤ j ∧ j < 64 * f + 64) → M 87 j = M0 87 j
theorem par_2 (h : k < 8) : Int32.ofNat k - Int32.ofNat k / (2 : Int32) * (2 : Int32) = Int32.ofNat (k % 2) := by
  rcases (show k = 0 ∨ k = 1 ∨ k = 2 ∨ k = 3 ∨ k = 4 ∨ k = 5 ∨ k = 6 ∨ k = 7 by omega) with rfl | rfl | rfl | rfl | rfl | rfl | rfl | rfl <;> rfl
theorem cm_rows (hf : f < 4) (h8 : W ≤ 8 ∧ H ≤ 8) (e2 : M0 85 2 = Int32.ofNat W) (e3 : M0 85 3 = Int32.ofNat H) (hn : M0 84 32 = Int32.ofNat nb) (h16 : 1 ≤ nb ∧ nb ≤ 16) (hmd : mode = 0 ∨ mode = 1 ∨ mode = 2) (hpc : ∀ k, k < 64 → M0 92 k = pc k) (h0 : cm_P M0 f (fun _ => 0, fun _ => 0) M)
    (hk : ∀ M', cm_P M0 f (rw_y (M0 103) nb mode pc W H H) M' → Q (.inl (some (.int (Int32.ofNat nb)))) (M', J, rf_w r, sh_w N, n)) :
    mc_WP (124, 235, [.ref 84, .int x1, .int mode, .int x3, .int (Int32.ofNat f), .int x5, .int 0, .null, .null, .null], [], (M, J, rf_w r, sh_w N, n), (0, 0)) Q := by
  refine lp_go (C := fun y (i : rl_M × Value × Value × Value) => (124, 235, [.ref 84, .int x1, .int mode, .int x3, .int (Int32.ofNat f), .int x5, .int (Int32.ofNat y), i.2.1, i.2.2.1, i.2.2.2], [], (i.1, J, rf_w r, sh_w N, n), (0, 0))) (P := fun y i => cm_P M0 f (rw_y (M0 103) nb mode pc W H y) i.1) H (M, .null, .null, .null) h0 ?_ ?_
  · intro y hy ⟨M1, z7, z8, z9⟩ hP next
    dsimp only at hP next ⊢
    have main : mc_WP (124, 263, [.ref 84, .int x1, .int mode, .int x3, .int (Int32.ofNat f), .int x5, .int (Int32.ofNat y), .int (as_v y), .int 0, z9], [], (M1, J, rf_w r, sh_w N, n), (0, 0)) Q := by
      refine lp_go (C := fun k (i : rl_M × Value) => (124, 263, [.ref 84, .int x1, .int mode, .int x3, .int (Int32.ofNat f), .int x5, .int (Int32.ofNat y), .int (as_v y), .int (Int32.ofNat k), i.2], [], (i.1, J, rf_w r, sh_w N, n), (0, 0))) (P := fun k i => cm_P M0 f (rw_x (M0 103) nb mode pc W H y k (rw_y (M0 103) nb mode pc W H y)) i.1) W (M1, z9) hP ?_ ?_
      · intro k hk' ⟨M2, z9⟩ ⟨p1, p2, p3, p4⟩ nx
        dsimp only at p1 p2 p3 p4 nx ⊢
        have hok := rw_xok (mn := M0 103) (mode := mode) (pc := pc) (y := y) h16 h8 hy (rw_yok (mn := M0 103) (pc := pc) h16 h8 y (by omega)) k (by omega)
        have hx := xs_lt (y := y) hk'
        generalize hxe : xs_v W y k = x at hx
        generalize hce : pc (8 * y + x) = c
        have hc : M2 92 (8 * y + x) = c := by rw [p1 92 (by decide) (by decide), hpc _ (by omega)]; exact hce
        have pix : ∀ z, mc_WP (mc_en 123 [.ref 84, .int (Int32.ofNat x), .int (Int32.ofNat y), .int mode, .int (as_v y)] (M2, J, rf_w r, sh_w N, n)) (mc_kr (fun v t => mc_WP (124, 326, [.ref 84, .int x1, .int mode, .int x3, .int (Int32.ofNat f), .int x5, .int (Int32.ofNat y), .int (as_v y), .int (Int32.ofNat k), .int z], v.toList ++ [.int (Int32.ofNat (64 * f + 8 * y + x)), .ref 87], t, (0, 0)) Q) (fun k t => Q (.inr k) t)) := by
          intro z
          refine cm_number (E := (rw_x (M0 103) nb mode pc W H y k (rw_y (M0 103) nb mode pc W H y)).1) (by omega) (by omega) hc (by rw [p1 85 (by decide) (by decide)]; exact e2) (by rw [p1 85 (by decide) (by decide)]; exact e3) h8 (by rw [p1 84 (by decide) (by decide)]; exact hn) h16 (as_1 y) p2 hmd (fun hm k _ => hok.2.2 hm k) fun M3 r3 f3 => ?_
          rw [p1 103 (by decide) (by decide)] at f3 ⊢
          refine bk_124_326 (b0z := 256) rfl (by decide) ?_
          rw [on_n (by omega), on_1 (k := k)]
          generalize hb : nu_b (M0 103) nb mode (rw_x (M0 103) nb mode pc W H y k (rw_y (M0 103) nb mode pc W H y)).1 c x y = bv
          generalize hM5 : mc_up M3 87 (64 * f + 8 * y + x) bv = M5
          refine ⟨on_vp (by omega) (by omega), nx (M5, _) ⟨fun e q1 q2 => ?_, fun j hj => ?_, fun j hj => ?_, fun j hj => ?_⟩⟩
          · show M5 e = _
            rw [← hM5, up_ne q2, r3 e q1]
            exact p1 e q1 q2
          · show M5 104 j = nu_E _ _ _ _ _ _ _ _ _ _ j
            rw [← hM5, up_ne (by decide), f3 j hj, hxe, hce]
          · show M5 87 (64 * f + j) = (if j = 8 * y + xs_v W y k then _ else _)
            rw [← hM5, up_row]
            dsimp only
            rw [hxe, hce]
            by_cases q : j = 8 * y + x
            · rw [if_pos (by omega), if_pos q, hb]
            · rw [if_neg (by omega), if_neg q, r3 87 (by decide)]
              exact p3 j hj
          · show M5 87 j = _
            rw [← hM5, up_row]
            dsimp only
            rw [if_neg (by omega), r3 87 (by decide)]
            exact p4 j hj
        have idx : ∀ q : Nat, (64 : Int32) * Int32.ofNat f + 8 * Int32.ofNat y + Int32.ofNat q = Int32.ofNat (64 * f + 8 * y + q) := fun q => by rw [Int32.ofNat_add, Int32.ofNat_add, Int32.ofNat_mul, Int32.ofNat_mul]; rfl
        refine bk_124_263 ?_
        rw [p1 85 (by decide) (by decide), e2]
        refine ⟨fun q => absurd ((on_le (by omega) (by omega)).mp q) (by omega), fun _ => ⟨fun q => ?_, fun q => ?_⟩⟩
        · have hodd : ¬ y % 2 = 0 := fun z => by unfold as_v at q; rw [if_pos z] at q; exact absurd q (by decide)
          have ex : Int32.ofNat W - 1 - Int32.ofNat k = Int32.ofNat x := by
            rw [show (1 : Int32) = Int32.ofNat 1 from rfl, on_sub (by omega), on_sub (by omega), ← hxe]
            unfold xs_v
            rw [if_neg hodd]
          rw [ex, idx]
          exact mc_inl (pix _)
        · have hev : y % 2 = 0 := Classical.not_not.mp fun z => q (by unfold as_v; rw [if_neg z]; decide)
          have ex : k = x := by
            rw [← hxe]
            unfold xs_v
            rw [if_pos hev]
          rw [idx]
          refine mc_inl ?_
          have := pix (Int32.ofNat k)
          rw [← ex] at this
          exact this
      · intro ⟨M2, z9⟩ hP2
        dsimp only at hP2 ⊢
        refine bk_124_263 ?_
        rw [hP2.1 85 (by decide) (by decide), e2, on_1 (k := y)]
        exact ⟨fun _ => next (M2, _, _, _) hP2, fun q => absurd ((on_le (by omega) (by omega)).mpr (Nat.le_refl _)) q⟩
    refine bk_124_235 ?_
    rw [hP.1 85 (by decide) (by decide), e3, par_2 (show y < 8 by omega)]
    refine ⟨fun q => absurd ((on_le (by omega) (by omega)).mp q) (by omega), fun _ => ⟨by decide, fun q => ?_, fun q => ?_⟩⟩
    · have h1 : ¬ y % 2 = 0 := fun z => q (by rw [z]; rfl)
      unfold as_v at main
      rw [if_neg h1] at main
      exact main
    · have h1 : y % 2 = 0 := by
        have q1 := Classical.not_not.mp q
        rw [show (0 : Int32) = Int32.ofNat 0 from rfl, on_eq (by omega) (by omega)] at q1
        exact q1
      unfold as_v at main
      rw [if_pos h1] at main
      exact main
  · intro ⟨M1, z7, z8, z9⟩ hP
    dsimp only at hP ⊢
    refine bk_124_235 ?_
    rw [hP.1 85 (by decide) (by decide), e3, hP.1 84 (by decide) (by decide), hn]
    exact ⟨fun _ => hk M1 hP, fun q => absurd ((on_le (by omega) (by omega)).mpr (Nat.le_refl _)) q⟩
/-- how many bits so many boxes need -/
def pb_v (nb : Nat) : Nat := if nb ≤ 2 then 1 else if nb ≤ 4 then 2 else if nb ≤ 8 then 3 else 4
theorem pb_b (h : nb ≤ 16) : (1 ≤ pb_v nb ∧ pb_v nb ≤ 4) ∧ nb ≤ 2 ^ pb_v nb ∧ (1 : Int32) <<< (Int32.ofNat (pb_v nb) &&& 31) = Int32.ofNat (2 ^ pb_v nb) ∧ rl_cnt (Int32.ofNat (pb_v nb)) = Int32.ofNat (2 ^ pb_v nb) ∧ 2 ^ pb_v nb ≤ 16 := by
  unfold pb_v
  split
  · exact ⟨by decide, by show nb ≤ 2; assumption, rfl, rfl, by decide⟩
  · split
    · exact ⟨by decide, by show nb ≤ 4; assumption, rfl, rfl, by decide⟩
    · split
      · exact ⟨by decide, by show nb ≤ 8; assumption, rfl, rfl, by decide⟩
      · exact ⟨by decide, by show nb ≤ 16; assumption, rfl, rfl, by decide⟩
theorem cc_pbits (h : nb ≤ 16) (hk : Q (.inl (some (.int (Int32.ofNat (pb_v nb))))) (M, J, rf_w r, sh_w N, n)) : mc_WP (mc_en 55 [.int (Int32.ofNat nb)] (M, J, rf_w r, sh_w N, n)) Q := by
  unfold pb_v at hk
  have t1 : (Int32.ofNat nb ≤ (1 : Int32) <<< ((1 : Int32) &&& 31)) ↔ nb ≤ 2 := on_le (m := 2) (by omega) (by omega)
  have t2 : (Int32.ofNat nb ≤ (1 : Int32) <<< ((1 + 1 : Int32) &&& 31)) ↔ nb ≤ 4 := on_le (m := 4) (by omega) (by omega)
  have t3 : (Int32.ofNat nb ≤ (1 : Int32) <<< ((1 + 1 + 1 : Int32) &&& 31)) ↔ nb ≤ 8 := on_le (m := 8) (by omega) (by omega)
  refine bk_55_0 (bk_55_2 ⟨fun q => absurd q (by decide), fun _ => ⟨fun q => ?_, fun q1 => ?_⟩⟩)
  · rw [if_pos (t1.mp q)] at hk; exact hk
  · rw [if_neg (fun z => q1 (t1.mpr z))] at hk
    refine bk_55_2 ⟨fun q => absurd q (by decide), fun _ => ⟨fun q => ?_, fun q2 => ?_⟩⟩
    · rw [if_pos (t2.mp q)] at hk; exact hk
    · rw [if_neg (fun z => q2 (t2.mpr z))] at hk
      refine bk_55_2 ⟨fun q => absurd q (by decide), fun _ => ⟨fun q => ?_, fun q3 => ?_⟩⟩
      · rw [if_pos (t3.mp q)] at hk; exact hk
      · rw [if_neg (fun z => q3 (t3.mpr z))] at hk
        exact bk_55_2 ⟨fun _ => hk, fun q => absurd (by decide) q⟩
end
