/-! read: the turn -/
section
variable {I M M' M1 : rl_M} {J : Nat → Nat → Int64} {r N n : Nat} {Q : mc_Q} {x4 : Int32} {x5 x6 : Value} {u : mc_U} {B : rd_B} {a k b q sb z f : Nat} {s : Nat × Nat × Int32} {R : fr_T} {Rs : List fr_T} {hs cs ps : rl_A}
theorem rlc (h : b ≤ 4) : rl_cnt (Int32.ofNat b) = Int32.ofNat (cn_b b) := by
  rcases (show b = 0 ∨ b = 1 ∨ b = 2 ∨ b = 3 ∨ b = 4 by omega) with rfl | rfl | rfl | rfl | rfl <;> rfl
theorem rb_Fr (hB : rd_ok B) (hso : so_k s) (hsb : 1 ≤ sb ∧ sb ≤ 4) (hpf : pf_f B a sb s = some (R, z)) (hf : f < 4) (hc : cf_is M (q + 4 + 4 * f) R) (hr : rf_is M1 f R) (e4 : hs 4 = Int32.ofNat sb) (eh : ∀ k, k < 45 → hs k = M1 88 k) (ec : ∀ k, k < 80 → cs k = M1 89 k) (ep : ∀ k, k < 256 → ps k = M1 90 k) (h40 : M1 88 4 = Int32.ofNat sb) : rb_F (rl_v q M) hs cs ps f := by
  have h8 := hB.1
  obtain ⟨-, -, P, hC, hd, hD, eR⟩ := pf_z hB hpf
  obtain ⟨⟨t1, t2, t3, t4⟩, t5, t6, t7, t8⟩ := id hC
  have hm4 : B.2 (a + 5 + 3 * pf_n B a) ≤ 4 := t8.2.2
  obtain ⟨pl1, pl2, -, -⟩ := pd_all h8 (p2_16 hm4) hd
  have x7 : B.2 a ≤ 7 := t1.2.2
  have y7 : B.2 (a + 1) ≤ 7 := t2.2.2
  have w8 : 1 ≤ B.2 (a + 2) ∧ B.2 (a + 2) ≤ 8 := ⟨t3.2.1, t3.2.2⟩
  have hh8 : 1 ≤ B.2 (a + 3) ∧ B.2 (a + 3) ≤ 8 := ⟨t4.2.1, t4.2.2⟩
  have fl15 : B.2 (a + 4) < 16 := by have := t5.2.2; omega
  have b4 : fl_b (B.2 (a + 4)) ≤ 4 := flb_4 fl15
  subst eR
  obtain ⟨⟨c1, c2, c3, c4⟩, ⟨c5, c6, c7, c8⟩, c9, c10, c11, c12⟩ := hc
  obtain ⟨⟨r1, r2, r3, r4⟩, ⟨r5, r6, r7, r8, r9⟩, r10, r11⟩ := hr
  unfold pf_r at c1 c2 c3 c4 c5 c6 c7 c8 c9 c10 c11 r1 r2 r3 r4 r5 r6 r7 r8 r9 r10 r11
  dsimp only at c1 c2 c3 c4 c5 c6 c7 c8 c9 c10 c11 r1 r2 r3 r4 r5 r6 r7 r8 r9 r10 r11
  have cfA : cf_A (pf_r B a s P) = pw_l (B.2 (a + 2)) (rw_l (Int32.ofNat (B.2 (a + 4) % 2)) (B.2 (a + 3))) := rfl
  have h9 : Int32.ofNat (B.2 (a + 4) % 2) = 0 ∨ Int32.ofNat (B.2 (a + 4) % 2) = 1 := by
    rcases (show B.2 (a + 4) % 2 = 0 ∨ B.2 (a + 4) % 2 = 1 by omega) with y | y <;> rw [y]
    · exact Or.inl rfl
    · exact Or.inr rfl
  have g : ∀ k, k < 9 → hs (9 * (f + 1) + k) = M1 88 (9 * (f + 1) + k) := fun k hk => eh _ (by omega)
  have g0 : hs (9 * (f + 1)) = Int32.ofNat (B.2 a) := (eh _ (by omega)).trans r1
  have g1 : hs (9 * (f + 1) + 1) = Int32.ofNat (B.2 (a + 1)) := (g 1 (by decide)).trans r2
  have g2 : hs (9 * (f + 1) + 2) = Int32.ofNat (B.2 (a + 2)) := (g 2 (by decide)).trans r3
  have g3 : hs (9 * (f + 1) + 3) = Int32.ofNat (B.2 (a + 3)) := (g 3 (by decide)).trans r4
  have g4 : hs (9 * (f + 1) + 4) = Int32.ofNat (fl_b (B.2 (a + 4))) := (g 4 (by decide)).trans r5
  have g5 : hs (9 * (f + 1) + 5) = Int32.ofNat s.1 := (g 5 (by decide)).trans r6
  have g6 : hs (9 * (f + 1) + 6) = Int32.ofNat s.2.1 := (g 6 (by decide)).trans r7
  have g7 : hs (9 * (f + 1) + 7) = s.2.2 := (g 7 (by decide)).trans r8
  have g8 : hs (9 * (f + 1) + 8) = Int32.ofNat (B.2 (a + 4) % 2) := (g 8 (by decide)).trans r9
  have en : pf_n B a = cn_b (fl_b (B.2 (a + 4))) := rfl
  have h16 := cn_16 b4
  have ebe : 1 ≤ pf_e B a sb ∧ pf_e B a sb ≤ 4 := by unfold pf_e; split <;> omega
  have p16 := p2_16 ebe.2
  have hrn : rb_n hs f = Int32.ofNat (2 ^ pf_e B a sb) := by
    unfold rb_n pf_e
    rw [g4, e4, rlc hsb.2, rlc b4]
    by_cases y : fl_b (B.2 (a + 4)) = 0
    · rw [y, if_pos (show Int32.ofNat 0 = 0 from rfl), if_pos rfl]
      unfold cn_b
      rw [if_neg (by omega)]
    · rw [if_neg (show ¬ Int32.ofNat (fl_b (B.2 (a + 4))) = 0 from fun u => y ((on_eq (m := 0) (by omega) (by omega)).mp u)), if_neg y]
      unfold cn_b
      rw [if_neg y]
  have v0 : ∀ k, rl_v q M (4 + 4 * f) k = M (q + 4 + 4 * f) k := fun k => (fv_0 (I := M) hf).symm
  have v1 : ∀ k, rl_v q M (4 + 4 * f + 1) k = M (q + 4 + 4 * f + 1) k := fun k => (fv_1 (I := M) hf).symm
  have v2 : ∀ k, rl_v q M (4 + 4 * f + 2) k = M (q + 4 + 4 * f + 2) k := fun k => (fv_2 (I := M) hf).symm
  have v3 : ∀ k, rl_v q M (4 + 4 * f + 2 + 1) k = M (q + 4 + 4 * f + 2 + 1) k := fun k => (fv_3 (I := M) hf).symm
  refine ⟨fun k hk => ?_, fun k hk => ?_, ?_, ?_, ?_, ?_, ?_, ?_, ?_, ?_, ⟨?_, ?_, fun k hk => ?_⟩, fun yy hyy zz hzz => ?_⟩
  · rw [v0]
    match k, hk with
    | 0, _ => exact c1.trans g0.symm
    | 1, _ => exact c2.trans g1.symm
    | 2, _ => exact c3.trans g2.symm
    | 3, _ => exact c4.trans g3.symm
  · rw [v0]
    match k, hk with
    | 0, _ => exact c5.trans g5.symm
    | 1, _ => exact c6.trans g6.symm
    | 2, _ => exact c7.trans g7.symm
    | 3, _ => exact c8.trans g8.symm
  · rw [g0, on_t (by omega)]; omega
  · rw [g1, on_t (by omega)]; omega
  · rw [g2, on_t (by omega)]; omega
  · rw [g3, on_t (by omega)]; omega
  · have := hso.1
    rw [g5, on_t (by omega)]; omega
  · have := hso.2.1
    rw [g6, on_t (by omega)]; omega
  · rw [g7, hrn, on_t (by omega)]
    exact ⟨hso.2.2, hD.1⟩
  · rw [g8]; exact h9
  · rw [g4, on_t (by omega)]; omega
  · rw [v2, c9, g4, rlc b4]
  · have ek : cs (16 * (f + 1) + k) = if k < pf_n B a then cv_f B (a + 5 + 3 * k) else 0 := (ec _ (by omega)).trans (r10 k hk)
    rw [v3, c10 k hk, ek, g4, rlc b4, on_t (by omega)]
    refine ⟨rfl, ?_, fun hle => ?_⟩
    · split
      · exact cv_b hB
      · decide
    · rw [if_neg (by omega)]
  · rw [g2, g3, on_t (by omega), on_t (by omega), v1, Nat.add_assoc (64 * f) (8 * yy) zz]
    refine ⟨fun hin => ?_, fun hout => ?_⟩
    · have hA := pw_at (w := B.2 (a + 2)) (v := Int32.ofNat (B.2 (a + 4) % 2)) (x := zz) hh8.2 h9 (show yy < B.2 (a + 3) by omega) (show zz < B.2 (a + 2) by omega)
      obtain ⟨k, hk1, hk2⟩ := List.getElem_of_mem hA
      have hAl : (pw_l (B.2 (a + 2)) (rw_l (Int32.ofNat (B.2 (a + 4) % 2)) (B.2 (a + 3)))).length = B.2 (a + 2) * B.2 (a + 3) := by rw [pw_len, (rwo_ok hh8.2 h9).1, Nat.mul_comm]
      have hkP : k < P.length := by omega
      have hAk := List.getElem?_eq_getElem hk1
      rw [hk2] at hAk
      obtain ⟨q1, u1, u2⟩ := c11 k P[k] (List.getElem?_eq_getElem hkP)
      obtain ⟨q2, u3, u4⟩ := r11 k P[k] (List.getElem?_eq_getElem hkP)
      have e1 : q1 = 8 * yy + zz := by
        have := u1.symm.trans hAk
        exact Option.some.inj this
      have e2 : q2 = 8 * yy + zz := by
        have := u3.symm.trans hAk
        exact Option.some.inj this
      subst e1
      rw [e2] at u4
      rw [u2, ep _ (by omega), u4, hrn, on_t (by omega)]
      exact ⟨rfl, pl2 _ (List.getElem_mem hkP), hD.2 _ (List.getElem_mem hkP)⟩
    · refine c12 _ (by omega) fun hA => hout ?_
      rw [cfA] at hA
      obtain ⟨y', z', y1, z1, e⟩ := pw_mem hA
      have := (rwo_ok hh8.2 h9).2 y' y1
      constructor <;> omega
end
