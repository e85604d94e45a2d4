/-! what the code does between its cut points (printed by blocks.py) -/
section
variable {I : Nat → Nat → Int32} {J : Nat → Nat → Int64} {r N n : Nat} {Q : mc_Q}
-- 104 read()I inl<=6
set_option maxRecDepth 20000 in
theorem bk_104_0
    (h : ∃ R : mc_Q, mc_WP (mc_en 103 [.ref 84] (I, J, rf_w r, sh_w N, n)) R ∧ (∀ v t, R (.inl v) t → mc_WP (104, 4, [.ref 84, .null, .null], v.toList ++ [], t, (0, 0)) Q) ∧ (∀ k t, R (.inr k) t → Q (.inr k) t)) :
    mc_WP (mc_en 104 [.ref 84] (I, J, rf_w r, sh_w N, n)) Q := by
  exact (mc_WP.run (mc_adjs _) 2 (And.intro rfl (And.intro (by decide) (And.intro (by decide) h))))
set_option maxRecDepth 20000 in
theorem bk_104_4
    (h : ((I 84 22) = 0 →
        (Q (.inl (some (.int (0 : Int32)))) ((mc_up I 84 0 (1 : Int32)), J, rf_w r, sh_w N, n))) ∧
        (¬ ((I 84 22) = 0) →
        ((¬ (I 85 2) = (I 88 2) →
          (mc_WP (104, 75, [.ref 84, .int (1 : Int32), .int (0 : Int32)], [], ((mc_up (mc_up I 84 0 (0 : Int32)) 84 1 (I 84 5)), J, rf_w r, sh_w N, n), (0, 0)) Q)) ∧
          (¬ (¬ (I 85 2) = (I 88 2)) →
          (((I 85 3) = (I 88 3) →
            (mc_WP (104, 75, [.ref 84, .int (0 : Int32), .int (0 : Int32)], [], ((mc_up (mc_up I 84 0 (0 : Int32)) 84 1 (I 84 5)), J, rf_w r, sh_w N, n), (0, 0)) Q)) ∧
            (¬ ((I 85 3) = (I 88 3)) →
            (mc_WP (104, 75, [.ref 84, .int (1 : Int32), .int (0 : Int32)], [], ((mc_up (mc_up I 84 0 (0 : Int32)) 84 1 (I 84 5)), J, rf_w r, sh_w N, n), (0, 0)) Q))))))) :
    mc_WP (104, 4, [.ref 84, .null, .null], [], (I, J, rf_w r, sh_w N, n), (0, 0)) Q := by
  exact (mc_WP.run (mc_adjs _) 4 (And.intro rfl (And.intro (fun c13 => (mc_WP.run (mc_adjs _) 5 (And.intro rfl (And.intro rfl (And.intro (fun c => absurd c (show ¬ ((1 : Int32) ≤ 0) by decide)) (fun _ => (mc_WP.run (mc_adjs _) 2 (h.1 c13)))))))) (fun c13 => (mc_WP.run (mc_adjs _) 2 (mc_WP.run (mc_adjs _) 4 (And.intro rfl (And.intro rfl (And.intro (fun _ => (mc_WP.run (mc_adjs _) 9 (And.intro ⟨rfl, (show ¬ (85 : Nat) = 0 by decide)⟩ (And.intro (wl_ld rfl (show vp_in (2 : Int32) 45 by unfold vp_in; decide)) (And.intro ⟨rfl, (show ¬ (88 : Nat) = 0 by decide)⟩ (And.intro (wl_ld rfl (show vp_in (2 : Int32) 45 by unfold vp_in; decide)) (And.intro (fun c14 => (mc_WP.run (mc_adjs _) 2 (mc_WP.run (mc_adjs _) 7 (And.intro rfl (And.intro rfl ((h.2 c13).1 c14)))))) (fun c14 => (mc_WP.run (mc_adjs _) 9 (And.intro ⟨rfl, (show ¬ (85 : Nat) = 0 by decide)⟩ (And.intro (wl_ld rfl (show vp_in (3 : Int32) 45 by unfold vp_in; decide)) (And.intro ⟨rfl, (show ¬ (88 : Nat) = 0 by decide)⟩ (And.intro (wl_ld rfl (show vp_in (3 : Int32) 45 by unfold vp_in; decide)) (And.intro (fun c15 => (mc_WP.run (mc_adjs _) 8 (And.intro rfl (And.intro rfl (((h.2 c13).2 c14).1 c15))))) (fun c15 => (mc_WP.run (mc_adjs _) 2 (mc_WP.run (mc_adjs _) 7 (And.intro rfl (And.intro rfl (((h.2 c13).2 c14).2 c15)))))))))))))))))))) (fun c => absurd (show (0 : Int32) ≤ 0 by decide) c))))))))))
set_option maxRecDepth 20000 in
theorem bk_104_75 {x1 : Int32} {x2 : Int32}
    (h : ((45 : Int32) ≤ x2 →
        (mc_WP (104, 101, [.ref 84, .int x1, .int (0 : Int32)], [], (I, J, rf_w r, sh_w N, n), (0, 0)) Q)) ∧
        (¬ ((45 : Int32) ≤ x2) →
        (vp_in x2 45 ∧ vp_in x2 45 ∧ mc_WP (104, 75, [.ref 84, .int x1, .int (x2 + (1 : Int32))], [], ((mc_up I 85 x2.toNatClampNeg (I 88 x2.toNatClampNeg)), J, rf_w r, sh_w N, n), (0, 0)) Q))) :
    mc_WP (104, 75, [.ref 84, .int x1, .int x2], [], (I, J, rf_w r, sh_w N, n), (0, 0)) Q := by
  exact (mc_WP.run (mc_adjs _) 3 (And.intro (fun c4 => (mc_WP.run (mc_adjs _) 2 (h.1 c4))) (fun c4 => (mc_WP.run (mc_adjs _) 10 (And.intro ⟨rfl, (show ¬ (85 : Nat) = 0 by decide)⟩ (And.intro ⟨rfl, (show ¬ (88 : Nat) = 0 by decide)⟩ (And.intro (wl_ld rfl (h.2 c4).1) (And.intro (wl_st rfl (h.2 c4).2.1 (show 10 ≤ (85 : Nat) by decide)) (h.2 c4).2.2))))))))
set_option maxRecDepth 20000 in
theorem bk_104_101 {x1 : Int32} {x2 : Int32}
    (h : ((80 : Int32) ≤ x2 →
        (mc_WP (104, 127, [.ref 84, .int x1, .int (0 : Int32)], [], (I, J, rf_w r, sh_w N, n), (0, 0)) Q)) ∧
        (¬ ((80 : Int32) ≤ x2) →
        (vp_in x2 80 ∧ vp_in x2 80 ∧ mc_WP (104, 101, [.ref 84, .int x1, .int (x2 + (1 : Int32))], [], ((mc_up I 86 x2.toNatClampNeg (I 89 x2.toNatClampNeg)), J, rf_w r, sh_w N, n), (0, 0)) Q))) :
    mc_WP (104, 101, [.ref 84, .int x1, .int x2], [], (I, J, rf_w r, sh_w N, n), (0, 0)) Q := by
  exact (mc_WP.run (mc_adjs _) 3 (And.intro (fun c4 => (mc_WP.run (mc_adjs _) 2 (h.1 c4))) (fun c4 => (mc_WP.run (mc_adjs _) 10 (And.intro ⟨rfl, (show ¬ (86 : Nat) = 0 by decide)⟩ (And.intro ⟨rfl, (show ¬ (89 : Nat) = 0 by decide)⟩ (And.intro (wl_ld rfl (h.2 c4).1) (And.intro (wl_st rfl (h.2 c4).2.1 (show 10 ≤ (86 : Nat) by decide)) (h.2 c4).2.2))))))))
set_option maxRecDepth 20000 in
theorem bk_104_127 {x1 : Int32} {x2 : Int32}
    (h : ((256 : Int32) ≤ x2 →
        (mc_WP (104, 154, [.ref 84, .int x1, .int (0 : Int32)], [], (I, J, rf_w r, sh_w N, n), (0, 0)) Q)) ∧
        (¬ ((256 : Int32) ≤ x2) →
        (vp_in x2 256 ∧ vp_in x2 256 ∧ mc_WP (104, 127, [.ref 84, .int x1, .int (x2 + (1 : Int32))], [], ((mc_up I 87 x2.toNatClampNeg (I 90 x2.toNatClampNeg)), J, rf_w r, sh_w N, n), (0, 0)) Q))) :
    mc_WP (104, 127, [.ref 84, .int x1, .int x2], [], (I, J, rf_w r, sh_w N, n), (0, 0)) Q := by
  exact (mc_WP.run (mc_adjs _) 3 (And.intro (fun c4 => (mc_WP.run (mc_adjs _) 2 (h.1 c4))) (fun c4 => (mc_WP.run (mc_adjs _) 10 (And.intro ⟨rfl, (show ¬ (87 : Nat) = 0 by decide)⟩ (And.intro ⟨rfl, (show ¬ (90 : Nat) = 0 by decide)⟩ (And.intro (wl_ld rfl (h.2 c4).1) (And.intro (wl_st rfl (h.2 c4).2.1 (show 10 ≤ (87 : Nat) by decide)) (h.2 c4).2.2))))))))
set_option maxRecDepth 20000 in
theorem bk_104_154 {x1 : Int32} {x2 : Int32}
    (h : ((64 : Int32) ≤ x2 →
        (∃ R : mc_Q, mc_WP (mc_en 59 [.ref 84] (I, J, rf_w r, sh_w N, n)) R ∧ (∀ v t, R (.inl v) t → mc_WP (104, 190, [.ref 84, .int x1, .int x2], v.toList ++ [], t, (0, 0)) Q) ∧ (∀ k t, R (.inr k) t → Q (.inr k) t))) ∧
        (¬ ((64 : Int32) ≤ x2) →
        ((x1 = 0 →
          (vp_in x2 64 ∧ vp_in x2 64 ∧ mc_WP (104, 154, [.ref 84, .int x1, .int (x2 + (1 : Int32))], [], ((mc_up I 92 x2.toNatClampNeg (I 92 x2.toNatClampNeg)), J, rf_w r, sh_w N, n), (0, 0)) Q)) ∧
          (¬ (x1 = 0) →
          (vp_in x2 64 ∧ mc_WP (104, 154, [.ref 84, .int x1, .int (x2 + (1 : Int32))], [], ((mc_up I 92 x2.toNatClampNeg (0 : Int32)), J, rf_w r, sh_w N, n), (0, 0)) Q))))) :
    mc_WP (104, 154, [.ref 84, .int x1, .int x2], [], (I, J, rf_w r, sh_w N, n), (0, 0)) Q := by
  exact (mc_WP.run (mc_adjs _) 3 (And.intro (fun c7 => (mc_WP.run (mc_adjs _) 2 (And.intro rfl (And.intro (by decide) (And.intro (by decide) (h.1 c7)))))) (fun c7 => (mc_WP.run (mc_adjs _) 5 (And.intro ⟨rfl, (show ¬ (92 : Nat) = 0 by decide)⟩ (And.intro (fun c8 => (mc_WP.run (mc_adjs _) 7 (And.intro ⟨rfl, (show ¬ (92 : Nat) = 0 by decide)⟩ (And.intro (wl_ld rfl ((h.2 c7).1 c8).1) (And.intro (wl_st rfl ((h.2 c7).1 c8).2.1 (show 10 ≤ (92 : Nat) by decide)) ((h.2 c7).1 c8).2.2))))) (fun c8 => (mc_WP.run (mc_adjs _) 2 (mc_WP.run (mc_adjs _) 3 (And.intro (wl_st rfl ((h.2 c7).2 c8).1 (show 10 ≤ (92 : Nat) by decide)) ((h.2 c7).2 c8).2))))))))))
set_option maxRecDepth 20000 in
theorem bk_104_190 {x1 : Int32} {x2 : Int32}
    (h : Q (.inl (some (.int (I 84 1)))) (I, J, rf_w r, sh_w N, n)) :
    mc_WP (104, 190, [.ref 84, .int x1, .int x2], [], (I, J, rf_w r, sh_w N, n), (0, 0)) Q := by
  exact (mc_WP.run (mc_adjs _) 3 (And.intro rfl h))
-- 105 lies(III)Z inl<=6
set_option maxRecDepth 20000 in
theorem bk_105_0 {x1 : Int32} {x2 : Int32} {x3 : Int32}
    (h : vp_in (((9 : Int32) * (x1 + (1 : Int32))) + (0 : Int32)) 45 ∧ (x2 < (I 85 (((9 : Int32) * (x1 + (1 : Int32))) + (0 : Int32)).toNatClampNeg) → (Q (.inl (some (.int (0 : Int32)))) (I, J, rf_w r, sh_w N, n))) ∧
        (¬ (x2 < (I 85 (((9 : Int32) * (x1 + (1 : Int32))) + (0 : Int32)).toNatClampNeg)) →
        (vp_in (((9 : Int32) * (x1 + (1 : Int32))) + (0 : Int32)) 45 ∧ vp_in (((9 : Int32) * (x1 + (1 : Int32))) + (2 : Int32)) 45 ∧ (((I 85 (((9 : Int32) * (x1 + (1 : Int32))) + (0 : Int32)).toNatClampNeg) + (I 85 (((9 : Int32) * (x1 + (1 : Int32))) + (2 : Int32)).toNatClampNeg)) ≤ x2 → (Q (.inl (some (.int (0 : Int32)))) (I, J, rf_w r, sh_w N, n))) ∧
          (¬ (((I 85 (((9 : Int32) * (x1 + (1 : Int32))) + (0 : Int32)).toNatClampNeg) + (I 85 (((9 : Int32) * (x1 + (1 : Int32))) + (2 : Int32)).toNatClampNeg)) ≤ x2) →
          (vp_in (((9 : Int32) * (x1 + (1 : Int32))) + (1 : Int32)) 45 ∧ (x3 < (I 85 (((9 : Int32) * (x1 + (1 : Int32))) + (1 : Int32)).toNatClampNeg) → (Q (.inl (some (.int (0 : Int32)))) (I, J, rf_w r, sh_w N, n))) ∧
            (¬ (x3 < (I 85 (((9 : Int32) * (x1 + (1 : Int32))) + (1 : Int32)).toNatClampNeg)) →
            (vp_in (((9 : Int32) * (x1 + (1 : Int32))) + (1 : Int32)) 45 ∧ vp_in (((9 : Int32) * (x1 + (1 : Int32))) + (3 : Int32)) 45 ∧ (((I 85 (((9 : Int32) * (x1 + (1 : Int32))) + (1 : Int32)).toNatClampNeg) + (I 85 (((9 : Int32) * (x1 + (1 : Int32))) + (3 : Int32)).toNatClampNeg)) ≤ x3 → (Q (.inl (some (.int (0 : Int32)))) (I, J, rf_w r, sh_w N, n))) ∧
              (¬ (((I 85 (((9 : Int32) * (x1 + (1 : Int32))) + (1 : Int32)).toNatClampNeg) + (I 85 (((9 : Int32) * (x1 + (1 : Int32))) + (3 : Int32)).toNatClampNeg)) ≤ x3) → (Q (.inl (some (.int (1 : Int32)))) (I, J, rf_w r, sh_w N, n)))))))))) :
    mc_WP (mc_en 105 [.ref 84, .int x1, .int x2, .int x3] (I, J, rf_w r, sh_w N, n)) Q := by
  exact (mc_WP.run (mc_adjs _) 14 (And.intro ⟨rfl, (show ¬ (85 : Nat) = 0 by decide)⟩ (And.intro (wl_ld rfl h.1) (And.intro (fun c11 => (mc_WP.run (mc_adjs _) 2 (And.intro (by decide) (h.2.1 c11)))) (fun c11 => (mc_WP.run (mc_adjs _) 15 (And.intro ⟨rfl, (show ¬ (85 : Nat) = 0 by decide)⟩ (And.intro (wl_ld rfl (h.2.2 c11).1) (And.intro ⟨rfl, (show ¬ (85 : Nat) = 0 by decide)⟩ (And.intro (wl_ld rfl (h.2.2 c11).2.1) (And.intro (fun c12 => (mc_WP.run (mc_adjs _) 2 (And.intro (by decide) ((h.2.2 c11).2.2.1 c12)))) (fun c12 => (mc_WP.run (mc_adjs _) 8 (And.intro ⟨rfl, (show ¬ (85 : Nat) = 0 by decide)⟩ (And.intro (wl_ld rfl ((h.2.2 c11).2.2.2 c12).1) (And.intro (fun c13 => (mc_WP.run (mc_adjs _) 2 (And.intro (by decide) (((h.2.2 c11).2.2.2 c12).2.1 c13)))) (fun c13 => (mc_WP.run (mc_adjs _) 15 (And.intro ⟨rfl, (show ¬ (85 : Nat) = 0 by decide)⟩ (And.intro (wl_ld rfl (((h.2.2 c11).2.2.2 c12).2.2 c13).1) (And.intro ⟨rfl, (show ¬ (85 : Nat) = 0 by decide)⟩ (And.intro (wl_ld rfl (((h.2.2 c11).2.2.2 c12).2.2 c13).2.1) (And.intro (fun c14 => (mc_WP.run (mc_adjs _) 2 (And.intro (by decide) ((((h.2.2 c11).2.2.2 c12).2.2 c13).2.2.1 c14)))) (fun c14 => (mc_WP.run (mc_adjs _) 2 (mc_WP.run (mc_adjs _) 1 (And.intro (by decide) ((((h.2.2 c11).2.2.2 c12).2.2 c13).2.2.2 c14))))))))))))))))))))))))))))
-- 106 drawOne(I)V inl<=1
set_option maxRecDepth 20000 in
theorem bk_106_0 {x1 : Int32}
    (h : mc_WP (106, 9, [.ref 84, .int x1, .int ((9 : Int32) * (x1 + (1 : Int32))), .int (0 : Int32), .null, .null], [], (I, J, rf_w r, sh_w N, n), (0, 0)) Q) :
    mc_WP (mc_en 106 [.ref 84, .int x1] (I, J, rf_w r, sh_w N, n)) Q := by
  exact (mc_WP.run (mc_adjs _) 8 h)
set_option maxRecDepth 20000 in
theorem bk_106_9 {x1 : Int32} {x2 : Int32} {x3 : Int32} {x4 : Value} {x5 : Value}
    (h : ((I 85 3) ≤ x3 → (Q (.inl none) (I, J, rf_w r, sh_w N, n))) ∧
        (¬ ((I 85 3) ≤ x3) →
        (mc_WP (106, 22, [.ref 84, .int x1, .int x2, .int x3, .int (0 : Int32), x5], [], (I, J, rf_w r, sh_w N, n), (0, 0)) Q))) :
    mc_WP (106, 9, [.ref 84, .int x1, .int x2, .int x3, x4, x5], [], (I, J, rf_w r, sh_w N, n), (0, 0)) Q := by
  exact (mc_WP.run (mc_adjs _) 6 (And.intro ⟨rfl, (show ¬ (85 : Nat) = 0 by decide)⟩ (And.intro (wl_ld rfl (show vp_in (3 : Int32) 45 by unfold vp_in; decide)) (And.intro (fun c4 => (mc_WP.run (mc_adjs _) 1 (h.1 c4))) (fun c4 => (mc_WP.run (mc_adjs _) 2 (h.2 c4)))))))
set_option maxRecDepth 20000 in
theorem bk_106_22 {x1 : Int32} {x2 : Int32} {x3 : Int32} {x4 : Int32} {x5 : Value}
    (h : ((I 85 2) ≤ x4 →
        (mc_WP (106, 9, [.ref 84, .int x1, .int x2, .int (x3 + (1 : Int32)), .int x4, x5], [], (I, J, rf_w r, sh_w N, n), (0, 0)) Q)) ∧
        (¬ ((I 85 2) ≤ x4) →
        (vp_in (((8 : Int32) * x3) + x4) 64 ∧ vp_in (((8 : Int32) * x3) + x4) 64 ∧ ∃ R : mc_Q, mc_WP (mc_en 105 [.ref 84, .int x1, .int x4, .int x3] ((mc_up I 94 (((8 : Int32) * x3) + x4).toNatClampNeg (I 93 (((8 : Int32) * x3) + x4).toNatClampNeg)), J, rf_w r, sh_w N, n)) R ∧ (∀ v t, R (.inl v) t → mc_WP (106, 65, [.ref 84, .int x1, .int x2, .int x3, .int x4, x5], v.toList ++ [], t, (0, 0)) Q) ∧ (∀ k t, R (.inr k) t → Q (.inr k) t)))) :
    mc_WP (106, 22, [.ref 84, .int x1, .int x2, .int x3, .int x4, x5], [], (I, J, rf_w r, sh_w N, n), (0, 0)) Q := by
  exact (mc_WP.run (mc_adjs _) 6 (And.intro ⟨rfl, (show ¬ (85 : Nat) = 0 by decide)⟩ (And.intro (wl_ld rfl (show vp_in (2 : Int32) 45 by unfold vp_in; decide)) (And.intro (fun c4 => (mc_WP.run (mc_adjs _) 2 (h.1 c4))) (fun c4 => (mc_WP.run (mc_adjs _) 21 (And.intro ⟨rfl, (show ¬ (94 : Nat) = 0 by decide)⟩ (And.intro ⟨rfl, (show ¬ (93 : Nat) = 0 by decide)⟩ (And.intro (wl_ld rfl (h.2 c4).1) (And.intro (wl_st rfl (h.2 c4).2.1 (show 10 ≤ (94 : Nat) by decide)) (And.intro rfl (And.intro (by decide) (And.intro (by decide) (h.2 c4).2.2)))))))))))))
set_option maxRecDepth 20000 in
theorem bk_106_65 {x1 : Int32} {x2 : Int32} {x3 : Int32} {x4 : Int32} {x5 : Value} {y0 : Int32}
    (h : (y0 = 0 →
        (vp_in (x2 + (7 : Int32)) 45 ∧ ∃ R : mc_Q, mc_WP (mc_en 105 [.ref 84, .int x1, .int x4, .int x3] (I, J, rf_w r, sh_w N, n)) R ∧ (∀ v t, R (.inl v) t → mc_WP (106, 136, [.ref 84, .int x1, .int x2, .int x3, .int x4, .int (I 85 (x2 + (7 : Int32)).toNatClampNeg)], v.toList ++ [.int (((8 : Int32) * x3) + x4), .ref 93], t, (0, 0)) Q) ∧ (∀ k t, R (.inr k) t → Q (.inr k) t))) ∧
        (¬ (y0 = 0) →
        (vp_in (x2 + (1 : Int32)) 45 ∧ vp_in (x2 + (0 : Int32)) 45 ∧ vp_in (((((64 : Int32) * x1) + ((8 : Int32) * (x3 - (I 85 (x2 + (1 : Int32)).toNatClampNeg)))) + x4) - (I 85 (x2 + (0 : Int32)).toNatClampNeg)) 256 ∧ ∃ R : mc_Q, mc_WP (mc_en 105 [.ref 84, .int x1, .int x4, .int x3] (I, J, rf_w r, sh_w N, n)) R ∧ (∀ v t, R (.inl v) t → mc_WP (106, 136, [.ref 84, .int x1, .int x2, .int x3, .int x4, .int (I 87 (((((64 : Int32) * x1) + ((8 : Int32) * (x3 - (I 85 (x2 + (1 : Int32)).toNatClampNeg)))) + x4) - (I 85 (x2 + (0 : Int32)).toNatClampNeg)).toNatClampNeg)], v.toList ++ [.int (((8 : Int32) * x3) + x4), .ref 93], t, (0, 0)) Q) ∧ (∀ k t, R (.inr k) t → Q (.inr k) t)))) :
    mc_WP (106, 65, [.ref 84, .int x1, .int x2, .int x3, .int x4, x5], [.int y0], (I, J, rf_w r, sh_w N, n), (0, 0)) Q := by
  exact (mc_WP.run (mc_adjs _) 1 (And.intro (fun c5 => (mc_WP.run (mc_adjs _) 19 (And.intro ⟨rfl, (show ¬ (85 : Nat) = 0 by decide)⟩ (And.intro (wl_ld rfl (h.1 c5).1) (And.intro ⟨rfl, (show ¬ (93 : Nat) = 0 by decide)⟩ (And.intro rfl (And.intro (by decide) (And.intro (by decide) (h.1 c5).2)))))))) (fun c5 => (mc_WP.run (mc_adjs _) 27 (And.intro ⟨rfl, (show ¬ (87 : Nat) = 0 by decide)⟩ (And.intro ⟨rfl, (show ¬ (85 : Nat) = 0 by decide)⟩ (And.intro (wl_ld rfl (h.2 c5).1) (And.intro ⟨rfl, (show ¬ (85 : Nat) = 0 by decide)⟩ (And.intro (wl_ld rfl (h.2 c5).2.1) (And.intro (wl_ld rfl (h.2 c5).2.2.1) (mc_WP.run (mc_adjs _) 13 (And.intro ⟨rfl, (show ¬ (93 : Nat) = 0 by decide)⟩ (And.intro rfl (And.intro (by decide) (And.intro (by decide) (h.2 c5).2.2.2)))))))))))))))
set_option maxRecDepth 20000 in
theorem bk_106_136 {x1 : Int32} {x2 : Int32} {x3 : Int32} {x4 : Int32} {x5 : Int32} {b0 : Nat} {b0z : Nat} {y1 : Int32} {y2 : Int32} (hb0 : sh_w N b0 = (2, b0z)) (gb0 : 10 ≤ b0)
    (h : (y2 = 0 →
        (vp_in (((8 : Int32) * x3) + x4) 64 ∧ vp_in y1 b0z ∧ mc_WP (106, 22, [.ref 84, .int x1, .int x2, .int x3, .int (x4 + (1 : Int32)), .int x5], [], ((mc_up I b0 y1.toNatClampNeg (I 93 (((8 : Int32) * x3) + x4).toNatClampNeg)), J, rf_w r, sh_w N, n), (0, 0)) Q)) ∧
        (¬ (y2 = 0) →
        (vp_in (x2 + (7 : Int32)) 45 ∧ (x5 = (I 85 (x2 + (7 : Int32)).toNatClampNeg) →
          (vp_in (((8 : Int32) * x3) + x4) 64 ∧ vp_in y1 b0z ∧ mc_WP (106, 22, [.ref 84, .int x1, .int x2, .int x3, .int (x4 + (1 : Int32)), .int x5], [], ((mc_up I b0 y1.toNatClampNeg (I 93 (((8 : Int32) * x3) + x4).toNatClampNeg)), J, rf_w r, sh_w N, n), (0, 0)) Q)) ∧
          (¬ (x5 = (I 85 (x2 + (7 : Int32)).toNatClampNeg)) →
          (∃ R : mc_Q, mc_WP (mc_en 73 [.ref 84, .int x1, .int x5] (I, J, rf_w r, sh_w N, n)) R ∧ (∀ v t, R (.inl v) t → mc_WP (106, 160, [.ref 84, .int x1, .int x2, .int x3, .int x4, .int x5], v.toList ++ [.int y1, .ref b0], t, (0, 0)) Q) ∧ (∀ k t, R (.inr k) t → Q (.inr k) t)))))) :
    mc_WP (106, 136, [.ref 84, .int x1, .int x2, .int x3, .int x4, .int x5], [.int y2, .int y1, .ref b0], (I, J, rf_w r, sh_w N, n), (0, 0)) Q := by
  exact (mc_WP.run (mc_adjs _) 1 (And.intro (fun c6 => (mc_WP.run (mc_adjs _) 11 (And.intro ⟨rfl, (show ¬ (93 : Nat) = 0 by decide)⟩ (And.intro (wl_ld rfl (h.1 c6).1) (And.intro (wl_st hb0 (h.1 c6).2.1 gb0) (h.1 c6).2.2))))) (fun c6 => (mc_WP.run (mc_adjs _) 8 (And.intro ⟨rfl, (show ¬ (85 : Nat) = 0 by decide)⟩ (And.intro (wl_ld rfl (h.2 c6).1) (And.intro (fun c7 => (mc_WP.run (mc_adjs _) 11 (And.intro ⟨rfl, (show ¬ (93 : Nat) = 0 by decide)⟩ (And.intro (wl_ld rfl ((h.2 c6).2.1 c7).1) (And.intro (wl_st hb0 ((h.2 c6).2.1 c7).2.1 gb0) ((h.2 c6).2.1 c7).2.2))))) (fun c7 => (mc_WP.run (mc_adjs _) 4 (And.intro rfl (And.intro (by decide) (And.intro (by decide) ((h.2 c6).2.2 c7)))))))))))))
set_option maxRecDepth 20000 in
theorem bk_106_160 {x1 : Int32} {x2 : Int32} {x3 : Int32} {x4 : Int32} {x5 : Int32} {b0 : Nat} {b0z : Nat} {y1 : Int32} {y2 : Int32} (hb0 : sh_w N b0 = (2, b0z)) (gb0 : 10 ≤ b0)
    (h : vp_in y1 b0z ∧ mc_WP (106, 22, [.ref 84, .int x1, .int x2, .int x3, .int (x4 + (1 : Int32)), .int x5], [], ((mc_up I b0 y1.toNatClampNeg y2), J, rf_w r, sh_w N, n), (0, 0)) Q) :
    mc_WP (106, 160, [.ref 84, .int x1, .int x2, .int x3, .int x4, .int x5], [.int y2, .int y1, .ref b0], (I, J, rf_w r, sh_w N, n), (0, 0)) Q := by
  exact (mc_WP.run (mc_adjs _) 1 (mc_WP.run (mc_adjs _) 3 (And.intro (wl_st hb0 h.1 gb0) h.2)))
-- 107 dispose(I)V inl<=1
set_option maxRecDepth 20000 in
theorem bk_107_0 {x1 : Int32}
    (h : vp_in (((9 : Int32) * (x1 + (1 : Int32))) + (5 : Int32)) 45 ∧ mc_WP (107, 16, [.ref 84, .int x1, .int (I 85 (((9 : Int32) * (x1 + (1 : Int32))) + (5 : Int32)).toNatClampNeg), .int (0 : Int32), .null, .null], [], (I, J, rf_w r, sh_w N, n), (0, 0)) Q) :
    mc_WP (mc_en 107 [.ref 84, .int x1] (I, J, rf_w r, sh_w N, n)) Q := by
  exact (mc_WP.run (mc_adjs _) 13 (And.intro ⟨rfl, (show ¬ (85 : Nat) = 0 by decide)⟩ (And.intro (wl_ld rfl h.1) h.2)))
set_option maxRecDepth 20000 in
theorem bk_107_16 {x1 : Int32} {x2 : Int32} {x3 : Int32} {x4 : Value} {x5 : Value}
    (h : ((I 85 3) ≤ x3 → (Q (.inl none) (I, J, rf_w r, sh_w N, n))) ∧
        (¬ ((I 85 3) ≤ x3) →
        (mc_WP (107, 29, [.ref 84, .int x1, .int x2, .int x3, .int (0 : Int32), x5], [], (I, J, rf_w r, sh_w N, n), (0, 0)) Q))) :
    mc_WP (107, 16, [.ref 84, .int x1, .int x2, .int x3, x4, x5], [], (I, J, rf_w r, sh_w N, n), (0, 0)) Q := by
  exact (mc_WP.run (mc_adjs _) 6 (And.intro ⟨rfl, (show ¬ (85 : Nat) = 0 by decide)⟩ (And.intro (wl_ld rfl (show vp_in (3 : Int32) 45 by unfold vp_in; decide)) (And.intro (fun c4 => (mc_WP.run (mc_adjs _) 1 (h.1 c4))) (fun c4 => (mc_WP.run (mc_adjs _) 2 (h.2 c4)))))))
set_option maxRecDepth 20000 in
theorem bk_107_29 {x1 : Int32} {x2 : Int32} {x3 : Int32} {x4 : Int32} {x5 : Value}
    (h : ((I 85 2) ≤ x4 →
        (mc_WP (107, 16, [.ref 84, .int x1, .int x2, .int (x3 + (1 : Int32)), .int x4, x5], [], (I, J, rf_w r, sh_w N, n), (0, 0)) Q)) ∧
        (¬ ((I 85 2) ≤ x4) →
        ((¬ x2 = (2 : Int32) →
          ((¬ x2 = (3 : Int32) →
            (vp_in (((8 : Int32) * x3) + x4) 64 ∧ vp_in (((8 : Int32) * x3) + x4) 64 ∧ mc_WP (107, 29, [.ref 84, .int x1, .int x2, .int x3, .int (x4 + (1 : Int32)), .int (((8 : Int32) * x3) + x4)], [], ((mc_up I 93 (((8 : Int32) * x3) + x4).toNatClampNeg (I 93 (((8 : Int32) * x3) + x4).toNatClampNeg)), J, rf_w r, sh_w N, n), (0, 0)) Q)) ∧
            (¬ (¬ x2 = (3 : Int32)) →
            (vp_in (((8 : Int32) * x3) + x4) 64 ∧ vp_in (((8 : Int32) * x3) + x4) 64 ∧ mc_WP (107, 29, [.ref 84, .int x1, .int x2, .int x3, .int (x4 + (1 : Int32)), .int (((8 : Int32) * x3) + x4)], [], ((mc_up I 93 (((8 : Int32) * x3) + x4).toNatClampNeg (I 94 (((8 : Int32) * x3) + x4).toNatClampNeg)), J, rf_w r, sh_w N, n), (0, 0)) Q)))) ∧
          (¬ (¬ x2 = (2 : Int32)) →
          (∃ R : mc_Q, mc_WP (mc_en 105 [.ref 84, .int x1, .int x4, .int x3] (I, J, rf_w r, sh_w N, n)) R ∧ (∀ v t, R (.inl v) t → mc_WP (107, 68, [.ref 84, .int x1, .int x2, .int x3, .int x4, .int (((8 : Int32) * x3) + x4)], v.toList ++ [.int (((8 : Int32) * x3) + x4), .ref 93], t, (0, 0)) Q) ∧ (∀ k t, R (.inr k) t → Q (.inr k) t)))))) :
    mc_WP (107, 29, [.ref 84, .int x1, .int x2, .int x3, .int x4, x5], [], (I, J, rf_w r, sh_w N, n), (0, 0)) Q := by
  exact (mc_WP.run (mc_adjs _) 6 (And.intro ⟨rfl, (show ¬ (85 : Nat) = 0 by decide)⟩ (And.intro (wl_ld rfl (show vp_in (2 : Int32) 45 by unfold vp_in; decide)) (And.intro (fun c9 => (mc_WP.run (mc_adjs _) 2 (h.1 c9))) (fun c9 => (mc_WP.run (mc_adjs _) 12 (And.intro ⟨rfl, (show ¬ (93 : Nat) = 0 by decide)⟩ (And.intro (fun c10 => (mc_WP.run (mc_adjs _) 3 (And.intro (fun c11 => (mc_WP.run (mc_adjs _) 7 (And.intro ⟨rfl, (show ¬ (93 : Nat) = 0 by decide)⟩ (And.intro (wl_ld rfl (((h.2 c9).1 c10).1 c11).1) (And.intro (wl_st rfl (((h.2 c9).1 c10).1 c11).2.1 (show 10 ≤ (93 : Nat) by decide)) (((h.2 c9).1 c10).1 c11).2.2))))) (fun c11 => (mc_WP.run (mc_adjs _) 5 (And.intro ⟨rfl, (show ¬ (94 : Nat) = 0 by decide)⟩ (And.intro (wl_ld rfl (((h.2 c9).1 c10).2 c11).1) (mc_WP.run (mc_adjs _) 3 (And.intro (wl_st rfl (((h.2 c9).1 c10).2 c11).2.1 (show 10 ≤ (93 : Nat) by decide)) (((h.2 c9).1 c10).2 c11).2.2))))))))) (fun c10 => (mc_WP.run (mc_adjs _) 5 (And.intro rfl (And.intro (by decide) (And.intro (by decide) ((h.2 c9).2 c10))))))))))))))
set_option maxRecDepth 20000 in
theorem bk_107_68 {x1 : Int32} {x2 : Int32} {x3 : Int32} {x4 : Int32} {x5 : Int32} {b0 : Nat} {b0z : Nat} {y1 : Int32} {y2 : Int32} (hb0 : sh_w N b0 = (2, b0z)) (gb0 : 10 ≤ b0)
    (h : (y2 = 0 →
        ((¬ x2 = (3 : Int32) →
          (vp_in x5 64 ∧ vp_in y1 b0z ∧ mc_WP (107, 29, [.ref 84, .int x1, .int x2, .int x3, .int (x4 + (1 : Int32)), .int x5], [], ((mc_up I b0 y1.toNatClampNeg (I 93 x5.toNatClampNeg)), J, rf_w r, sh_w N, n), (0, 0)) Q)) ∧
          (¬ (¬ x2 = (3 : Int32)) →
          (vp_in x5 64 ∧ vp_in y1 b0z ∧ mc_WP (107, 29, [.ref 84, .int x1, .int x2, .int x3, .int (x4 + (1 : Int32)), .int x5], [], ((mc_up I b0 y1.toNatClampNeg (I 94 x5.toNatClampNeg)), J, rf_w r, sh_w N, n), (0, 0)) Q)))) ∧
        (¬ (y2 = 0) →
        (vp_in y1 b0z ∧ mc_WP (107, 29, [.ref 84, .int x1, .int x2, .int x3, .int (x4 + (1 : Int32)), .int x5], [], ((mc_up I b0 y1.toNatClampNeg (-1 : Int32)), J, rf_w r, sh_w N, n), (0, 0)) Q))) :
    mc_WP (107, 68, [.ref 84, .int x1, .int x2, .int x3, .int x4, .int x5], [.int y2, .int y1, .ref b0], (I, J, rf_w r, sh_w N, n), (0, 0)) Q := by
  exact (mc_WP.run (mc_adjs _) 1 (And.intro (fun c8 => (mc_WP.run (mc_adjs _) 3 (And.intro (fun c9 => (mc_WP.run (mc_adjs _) 7 (And.intro ⟨rfl, (show ¬ (93 : Nat) = 0 by decide)⟩ (And.intro (wl_ld rfl ((h.1 c8).1 c9).1) (And.intro (wl_st hb0 ((h.1 c8).1 c9).2.1 gb0) ((h.1 c8).1 c9).2.2))))) (fun c9 => (mc_WP.run (mc_adjs _) 5 (And.intro ⟨rfl, (show ¬ (94 : Nat) = 0 by decide)⟩ (And.intro (wl_ld rfl ((h.1 c8).2 c9).1) (mc_WP.run (mc_adjs _) 3 (And.intro (wl_st hb0 ((h.1 c8).2 c9).2.1 gb0) ((h.1 c8).2 c9).2.2))))))))) (fun c8 => (mc_WP.run (mc_adjs _) 2 (mc_WP.run (mc_adjs _) 3 (And.intro (wl_st hb0 (h.2 c8).1 gb0) (h.2 c8).2))))))
-- 108 draw(I)I inl<=6
set_option maxRecDepth 20000 in
theorem bk_108_0 {x1 : Int32}
    (h : (x1 < (0 : Int32) →
        (Q (.inl (some (.int (0 : Int32)))) ((mc_up I 84 0 (1 : Int32)), J, rf_w r, sh_w N, n))) ∧
        (¬ (x1 < (0 : Int32)) →
        ((x1 ≤ (I 84 1) →
          (∃ R : mc_Q, mc_WP (mc_en 59 [.ref 84] ((mc_up I 84 0 (0 : Int32)), J, rf_w r, sh_w N, n)) R ∧ (∀ v t, R (.inl v) t → mc_WP (108, 34, [.ref 84, .int x1, .null, .null], v.toList ++ [], t, (0, 0)) Q) ∧ (∀ k t, R (.inr k) t → Q (.inr k) t))) ∧
          (¬ (x1 ≤ (I 84 1)) →
          (Q (.inl (some (.int (0 : Int32)))) ((mc_up I 84 0 (1 : Int32)), J, rf_w r, sh_w N, n)))))) :
    mc_WP (mc_en 108 [.ref 84, .int x1] (I, J, rf_w r, sh_w N, n)) Q := by
  exact (mc_WP.run (mc_adjs _) 6 (And.intro rfl (And.intro (by decide) (And.intro (by decide) (mc_inl (mc_WP.run (mc_adjs _) 3 (And.intro (fun c20 => (mc_WP.run (mc_adjs _) 2 (mc_WP.run (mc_adjs _) 1 (And.intro (by decide) (mc_WP.run (mc_adjs _) 1 (And.intro (fun c => absurd c (show ¬ ((1 : Int32) = 0) by decide)) (fun _ => (mc_WP.run (mc_adjs _) 2 (mc_WP.run (mc_adjs _) 4 (And.intro rfl (And.intro rfl (And.intro (fun c => absurd c (show ¬ ((1 : Int32) ≤ 0) by decide)) (fun _ => (mc_WP.run (mc_adjs _) 2 (h.1 c20))))))))))))))) (fun c20 => (mc_WP.run (mc_adjs _) 3 (And.intro (fun c21 => (mc_WP.run (mc_adjs _) 2 (And.intro (by decide) (mc_WP.run (mc_adjs _) 1 (And.intro (fun _ => (mc_WP.run (mc_adjs _) 5 (And.intro rfl (And.intro rfl (And.intro (fun _ => (mc_WP.run (mc_adjs _) 2 (And.intro rfl (And.intro (by decide) (And.intro (by decide) ((h.2 c20).1 c21)))))) (fun c => absurd (show (0 : Int32) ≤ 0 by decide) c)))))) (fun c => absurd (show (0 : Int32) = 0 by decide) c)))))) (fun c21 => (mc_WP.run (mc_adjs _) 2 (mc_WP.run (mc_adjs _) 1 (And.intro (by decide) (mc_WP.run (mc_adjs _) 1 (And.intro (fun c => absurd c (show ¬ ((1 : Int32) = 0) by decide)) (fun _ => (mc_WP.run (mc_adjs _) 2 (mc_WP.run (mc_adjs _) 4 (And.intro rfl (And.intro rfl (And.intro (fun c => absurd c (show ¬ ((1 : Int32) ≤ 0) by decide)) (fun _ => (mc_WP.run (mc_adjs _) 2 ((h.2 c20).2 c21)))))))))))))))))))))))))
set_option maxRecDepth 20000 in
theorem bk_108_34 {x1 : Int32}
    (h : mc_WP (108, 36, [.ref 84, .int x1, .int (0 : Int32), .null], [], (I, J, rf_w r, sh_w N, n), (0, 0)) Q) :
    mc_WP (108, 34, [.ref 84, .int x1, .null, .null], [], (I, J, rf_w r, sh_w N, n), (0, 0)) Q := by
  exact (mc_WP.run (mc_adjs _) 2 h)
set_option maxRecDepth 20000 in
theorem bk_108_36 {x1 : Int32} {x2 : Int32}
    (h : (x1 ≤ x2 →
        (mc_WP (108, 67, [.ref 84, .int x1, .int (0 : Int32), .int (0 : Int32)], [], (I, J, rf_w r, sh_w N, n), (0, 0)) Q)) ∧
        (¬ (x1 ≤ x2) →
        ((x2 ≤ 0 →
          (mc_WP (108, 52, [.ref 84, .int x1, .int x2, .null], [], (I, J, rf_w r, sh_w N, n), (0, 0)) Q)) ∧
          (¬ (x2 ≤ 0) →
          (∃ R : mc_Q, mc_WP (mc_en 107 [.ref 84, .int (x2 - (1 : Int32))] (I, J, rf_w r, sh_w N, n)) R ∧ (∀ v t, R (.inl v) t → mc_WP (108, 52, [.ref 84, .int x1, .int x2, .null], v.toList ++ [], t, (0, 0)) Q) ∧ (∀ k t, R (.inr k) t → Q (.inr k) t)))))) :
    mc_WP (108, 36, [.ref 84, .int x1, .int x2, .null], [], (I, J, rf_w r, sh_w N, n), (0, 0)) Q := by
  exact (mc_WP.run (mc_adjs _) 3 (And.intro (fun c5 => (mc_WP.run (mc_adjs _) 4 (h.1 c5))) (fun c5 => (mc_WP.run (mc_adjs _) 2 (And.intro (fun c6 => ((h.2 c5).1 c6)) (fun c6 => (mc_WP.run (mc_adjs _) 5 (And.intro rfl (And.intro (by decide) (And.intro (by decide) ((h.2 c5).2 c6)))))))))))
set_option maxRecDepth 20000 in
theorem bk_108_52 {x1 : Int32} {x2 : Int32}
    (h : ∃ R : mc_Q, mc_WP (mc_en 106 [.ref 84, .int x2] (I, J, rf_w r, sh_w N, n)) R ∧ (∀ v t, R (.inl v) t → mc_WP (108, 57, [.ref 84, .int x1, .int x2, .null], v.toList ++ [], t, (0, 0)) Q) ∧ (∀ k t, R (.inr k) t → Q (.inr k) t)) :
    mc_WP (108, 52, [.ref 84, .int x1, .int x2, .null], [], (I, J, rf_w r, sh_w N, n), (0, 0)) Q := by
  exact (mc_WP.run (mc_adjs _) 3 (And.intro rfl (And.intro (by decide) (And.intro (by decide) h))))
set_option maxRecDepth 20000 in
theorem bk_108_57 {x1 : Int32} {x2 : Int32}
    (h : mc_WP (108, 36, [.ref 84, .int x1, .int (x2 + (1 : Int32)), .null], [], (I, J, rf_w r, sh_w N, n), (0, 0)) Q) :
    mc_WP (108, 57, [.ref 84, .int x1, .int x2, .null], [], (I, J, rf_w r, sh_w N, n), (0, 0)) Q := by
  exact (mc_WP.run (mc_adjs _) 2 h)
set_option maxRecDepth 20000 in
theorem bk_108_67 {x1 : Int32} {x2 : Int32} {x3 : Int32}
    (h : ((64 : Int32) ≤ x3 → (Q (.inl (some (.int x2))) (I, J, rf_w r, sh_w N, n))) ∧
        (¬ ((64 : Int32) ≤ x3) →
        (vp_in x3 64 ∧ (¬ (I 93 x3.toNatClampNeg) = (-1 : Int32) →
          (mc_WP (108, 67, [.ref 84, .int x1, .int (x2 + (1 : Int32)), .int (x3 + (1 : Int32))], [], (I, J, rf_w r, sh_w N, n), (0, 0)) Q)) ∧
          (¬ (¬ (I 93 x3.toNatClampNeg) = (-1 : Int32)) →
          (mc_WP (108, 67, [.ref 84, .int x1, .int x2, .int (x3 + (1 : Int32))], [], (I, J, rf_w r, sh_w N, n), (0, 0)) Q))))) :
    mc_WP (108, 67, [.ref 84, .int x1, .int x2, .int x3], [], (I, J, rf_w r, sh_w N, n), (0, 0)) Q := by
  exact (mc_WP.run (mc_adjs _) 3 (And.intro (fun c7 => (mc_WP.run (mc_adjs _) 2 (h.1 c7))) (fun c7 => (mc_WP.run (mc_adjs _) 6 (And.intro ⟨rfl, (show ¬ (93 : Nat) = 0 by decide)⟩ (And.intro (wl_ld rfl (h.2 c7).1) (And.intro (fun c8 => (mc_WP.run (mc_adjs _) 6 ((h.2 c7).2.1 c8))) (fun c8 => (mc_WP.run (mc_adjs _) 2 (mc_WP.run (mc_adjs _) 3 ((h.2 c7).2.2 c8)))))))))))
-- 109 isPlace(II)Z inl<=6
set_option maxRecDepth 20000 in
theorem bk_109_0 {x1 : Int32} {x2 : Int32}
    (h : (x1 < (0 : Int32) →
        (Q (.inl (some (.int (0 : Int32)))) ((mc_up I 84 0 (1 : Int32)), J, rf_w r, sh_w N, n))) ∧
        (¬ (x1 < (0 : Int32)) →
        ((x1 ≤ ((I 85 2) - (1 : Int32)) →
          ((x2 < (0 : Int32) →
            (Q (.inl (some (.int (0 : Int32)))) ((mc_up I 84 0 (1 : Int32)), J, rf_w r, sh_w N, n))) ∧
            (¬ (x2 < (0 : Int32)) →
            ((x2 ≤ ((I 85 3) - (1 : Int32)) →
              (Q (.inl (some (.int (1 : Int32)))) ((mc_up I 84 0 (0 : Int32)), J, rf_w r, sh_w N, n))) ∧
              (¬ (x2 ≤ ((I 85 3) - (1 : Int32))) →
              (Q (.inl (some (.int (0 : Int32)))) ((mc_up I 84 0 (1 : Int32)), J, rf_w r, sh_w N, n))))))) ∧
          (¬ (x1 ≤ ((I 85 2) - (1 : Int32))) →
          (Q (.inl (some (.int (0 : Int32)))) ((mc_up I 84 0 (1 : Int32)), J, rf_w r, sh_w N, n)))))) :
    mc_WP (mc_en 109 [.ref 84, .int x1, .int x2] (I, J, rf_w r, sh_w N, n)) Q := by
  exact (mc_WP.run (mc_adjs _) 10 (And.intro ⟨rfl, (show ¬ (85 : Nat) = 0 by decide)⟩ (And.intro (wl_ld rfl (show vp_in (2 : Int32) 45 by unfold vp_in; decide)) (And.intro (by decide) (And.intro (by decide) (mc_inl (mc_WP.run (mc_adjs _) 3 (And.intro (fun c38 => (mc_WP.run (mc_adjs _) 2 (mc_WP.run (mc_adjs _) 1 (And.intro (by decide) (mc_WP.run (mc_adjs _) 1 (And.intro (fun _ => (mc_WP.run (mc_adjs _) 2 (mc_WP.run (mc_adjs _) 4 (And.intro rfl (And.intro rfl (And.intro (fun _ => (mc_WP.run (mc_adjs _) 2 (And.intro (by decide) (h.1 c38)))) (fun c => absurd (show ¬ (1 : Int32) = 0 by decide) c))))))) (fun c => absurd (show ¬ (1 : Int32) = 0 by decide) c))))))) (fun c38 => (mc_WP.run (mc_adjs _) 3 (And.intro (fun c39 => (mc_WP.run (mc_adjs _) 2 (And.intro (by decide) (mc_WP.run (mc_adjs _) 1 (And.intro (fun c => absurd c (show ¬ (¬ (0 : Int32) = 0) by decide)) (fun _ => (mc_WP.run (mc_adjs _) 9 (And.intro ⟨rfl, (show ¬ (85 : Nat) = 0 by decide)⟩ (And.intro (wl_ld rfl (show vp_in (3 : Int32) 45 by unfold vp_in; decide)) (And.intro (by decide) (And.intro (by decide) (mc_inl (mc_WP.run (mc_adjs _) 3 (And.intro (fun c40 => (mc_WP.run (mc_adjs _) 2 (mc_WP.run (mc_adjs _) 1 (And.intro (by decide) (mc_WP.run (mc_adjs _) 1 (And.intro (fun c => absurd c (show ¬ ((1 : Int32) = 0) by decide)) (fun _ => (mc_WP.run (mc_adjs _) 2 (mc_WP.run (mc_adjs _) 4 (And.intro rfl (And.intro rfl (And.intro (fun _ => (mc_WP.run (mc_adjs _) 2 (And.intro (by decide) (((h.2 c38).1 c39).1 c40)))) (fun c => absurd (show ¬ (1 : Int32) = 0 by decide) c))))))))))))) (fun c40 => (mc_WP.run (mc_adjs _) 3 (And.intro (fun c41 => (mc_WP.run (mc_adjs _) 2 (And.intro (by decide) (mc_WP.run (mc_adjs _) 1 (And.intro (fun _ => (mc_WP.run (mc_adjs _) 5 (And.intro rfl (And.intro rfl (And.intro (fun c => absurd c (show ¬ (¬ (0 : Int32) = 0) by decide)) (fun _ => (mc_WP.run (mc_adjs _) 2 (mc_WP.run (mc_adjs _) 1 (And.intro (by decide) ((((h.2 c38).1 c39).2 c40).1 c41)))))))))) (fun c => absurd (show (0 : Int32) = 0 by decide) c)))))) (fun c41 => (mc_WP.run (mc_adjs _) 2 (mc_WP.run (mc_adjs _) 1 (And.intro (by decide) (mc_WP.run (mc_adjs _) 1 (And.intro (fun c => absurd c (show ¬ ((1 : Int32) = 0) by decide)) (fun _ => (mc_WP.run (mc_adjs _) 2 (mc_WP.run (mc_adjs _) 4 (And.intro rfl (And.intro rfl (And.intro (fun _ => (mc_WP.run (mc_adjs _) 2 (And.intro (by decide) ((((h.2 c38).1 c39).2 c40).2 c41)))) (fun c => absurd (show ¬ (1 : Int32) = 0 by decide) c)))))))))))))))))))))))))))))) (fun c39 => (mc_WP.run (mc_adjs _) 2 (mc_WP.run (mc_adjs _) 1 (And.intro (by decide) (mc_WP.run (mc_adjs _) 1 (And.intro (fun _ => (mc_WP.run (mc_adjs _) 2 (mc_WP.run (mc_adjs _) 4 (And.intro rfl (And.intro rfl (And.intro (fun _ => (mc_WP.run (mc_adjs _) 2 (And.intro (by decide) ((h.2 c38).2 c39)))) (fun c => absurd (show ¬ (1 : Int32) = 0 by decide) c))))))) (fun c => absurd (show ¬ (1 : Int32) = 0 by decide) c))))))))))))))))))
-- 110 shown(II)I inl<=6
set_option maxRecDepth 20000 in
theorem bk_110_0 {x1 : Int32} {x2 : Int32}
    (h : ∃ R : mc_Q, mc_WP (mc_en 109 [.ref 84, .int x1, .int x2] (I, J, rf_w r, sh_w N, n)) R ∧ (∀ v t, R (.inl v) t → mc_WP (110, 6, [.ref 84, .int x1, .int x2], v.toList ++ [], t, (0, 0)) Q) ∧ (∀ k t, R (.inr k) t → Q (.inr k) t)) :
    mc_WP (mc_en 110 [.ref 84, .int x1, .int x2] (I, J, rf_w r, sh_w N, n)) Q := by
  exact (mc_WP.run (mc_adjs _) 4 (And.intro rfl (And.intro (by decide) (And.intro (by decide) h))))
set_option maxRecDepth 20000 in
theorem bk_110_6 {x1 : Int32} {x2 : Int32} {y0 : Int32}
    (h : (y0 = 0 → (Q (.inl (some (.int (0 : Int32)))) (I, J, rf_w r, sh_w N, n))) ∧
        (¬ (y0 = 0) →
        (vp_in (((8 : Int32) * x2) + x1) 64 ∧ Q (.inl (some (.int (I 93 (((8 : Int32) * x2) + x1).toNatClampNeg)))) (I, J, rf_w r, sh_w N, n)))) :
    mc_WP (110, 6, [.ref 84, .int x1, .int x2], [.int y0], (I, J, rf_w r, sh_w N, n), (0, 0)) Q := by
  exact (mc_WP.run (mc_adjs _) 1 (And.intro (fun c5 => (mc_WP.run (mc_adjs _) 2 (h.1 c5))) (fun c5 => (mc_WP.run (mc_adjs _) 9 (And.intro ⟨rfl, (show ¬ (93 : Nat) = 0 by decide)⟩ (And.intro (wl_ld rfl (h.2 c5).1) (mc_WP.run (mc_adjs _) 1 (h.2 c5).2)))))))
-- 111 paint(III)V inl<=6
set_option maxRecDepth 20000 in
theorem bk_111_0 {x1 : Int32} {x2 : Int32} {x3 : Int32}
    (h : ∃ R : mc_Q, mc_WP (mc_en 109 [.ref 84, .int x1, .int x2] (I, J, rf_w r, sh_w N, n)) R ∧ (∀ v t, R (.inl v) t → mc_WP (111, 6, [.ref 84, .int x1, .int x2, .int x3], v.toList ++ [], t, (0, 0)) Q) ∧ (∀ k t, R (.inr k) t → Q (.inr k) t)) :
    mc_WP (mc_en 111 [.ref 84, .int x1, .int x2, .int x3] (I, J, rf_w r, sh_w N, n)) Q := by
  exact (mc_WP.run (mc_adjs _) 4 (And.intro rfl (And.intro (by decide) (And.intro (by decide) h))))
set_option maxRecDepth 20000 in
theorem bk_111_6 {x1 : Int32} {x2 : Int32} {x3 : Int32} {y0 : Int32}
    (h : (y0 = 0 → (Q (.inl none) (I, J, rf_w r, sh_w N, n))) ∧
        (¬ (y0 = 0) →
        (vp_in (((8 : Int32) * x2) + x1) 64 ∧ Q (.inl none) ((mc_up I 92 (((8 : Int32) * x2) + x1).toNatClampNeg (x3 &&& (Int32.ofNat 16777215))), J, rf_w r, sh_w N, n)))) :
    mc_WP (111, 6, [.ref 84, .int x1, .int x2, .int x3], [.int y0], (I, J, rf_w r, sh_w N, n), (0, 0)) Q := by
  exact (mc_WP.run (mc_adjs _) 1 (And.intro (fun c4 => (mc_WP.run (mc_adjs _) 1 (h.1 c4))) (fun c4 => (mc_WP.run (mc_adjs _) 12 (And.intro ⟨rfl, (show ¬ (92 : Nat) = 0 by decide)⟩ (And.intro (wl_st rfl (h.2 c4).1 (show 10 ≤ (92 : Nat) by decide)) (h.2 c4).2))))))
-- 112 part(II)I inl<=6
set_option maxRecDepth 20000 in
theorem bk_112_0 {x0 : Int32} {x1 : Int32}
    (h : Q (.inl (some (.int ((x0 >>> (((16 : Int32) - ((8 : Int32) * x1)) &&& 31)) &&& (255 : Int32))))) (I, J, rf_w r, sh_w N, n)) :
    mc_WP (mc_en 112 [.int x0, .int x1] (I, J, rf_w r, sh_w N, n)) Q := by
  exact (mc_WP.run (mc_adjs _) 10 h)
-- 113 countColours()V inl<=6
set_option maxRecDepth 20000 in
theorem bk_113_0
    (h : mc_WP (113, 7, [.ref 84, .int (0 : Int32), .null, .null, .null], [], ((mc_up I 84 28 (0 : Int32)), J, rf_w r, sh_w N, n), (0, 0)) Q) :
    mc_WP (mc_en 113 [.ref 84] (I, J, rf_w r, sh_w N, n)) Q := by
  exact (mc_WP.run (mc_adjs _) 5 (And.intro rfl h))
set_option maxRecDepth 20000 in
theorem bk_113_7 {x1 : Int32} {x2 : Value} {x3 : Value} {x4 : Value}
    (h : ((I 85 3) ≤ x1 → (Q (.inl none) (I, J, rf_w r, sh_w N, n))) ∧
        (¬ ((I 85 3) ≤ x1) →
        (mc_WP (113, 19, [.ref 84, .int x1, .int (0 : Int32), x3, x4], [], (I, J, rf_w r, sh_w N, n), (0, 0)) Q))) :
    mc_WP (113, 7, [.ref 84, .int x1, x2, x3, x4], [], (I, J, rf_w r, sh_w N, n), (0, 0)) Q := by
  exact (mc_WP.run (mc_adjs _) 6 (And.intro ⟨rfl, (show ¬ (85 : Nat) = 0 by decide)⟩ (And.intro (wl_ld rfl (show vp_in (3 : Int32) 45 by unfold vp_in; decide)) (And.intro (fun c4 => (mc_WP.run (mc_adjs _) 1 (h.1 c4))) (fun c4 => (mc_WP.run (mc_adjs _) 2 (h.2 c4)))))))
set_option maxRecDepth 20000 in
theorem bk_113_19 {x1 : Int32} {x2 : Int32} {x3 : Value} {x4 : Value}
    (h : ((I 85 2) ≤ x2 →
        (mc_WP (113, 7, [.ref 84, .int (x1 + (1 : Int32)), .int x2, x3, x4], [], (I, J, rf_w r, sh_w N, n), (0, 0)) Q)) ∧
        (¬ ((I 85 2) ≤ x2) →
        (vp_in (((8 : Int32) * x1) + x2) 64 ∧ mc_WP (113, 44, [.ref 84, .int x1, .int x2, .int (I 92 (((8 : Int32) * x1) + x2).toNatClampNeg), .int (0 : Int32)], [], (I, J, rf_w r, sh_w N, n), (0, 0)) Q))) :
    mc_WP (113, 19, [.ref 84, .int x1, .int x2, x3, x4], [], (I, J, rf_w r, sh_w N, n), (0, 0)) Q := by
  exact (mc_WP.run (mc_adjs _) 6 (And.intro ⟨rfl, (show ¬ (85 : Nat) = 0 by decide)⟩ (And.intro (wl_ld rfl (show vp_in (2 : Int32) 45 by unfold vp_in; decide)) (And.intro (fun c4 => (mc_WP.run (mc_adjs _) 2 (h.1 c4))) (fun c4 => (mc_WP.run (mc_adjs _) 11 (And.intro ⟨rfl, (show ¬ (92 : Nat) = 0 by decide)⟩ (And.intro (wl_ld rfl (h.2 c4).1) (h.2 c4).2))))))))
set_option maxRecDepth 20000 in
theorem bk_113_44 {x1 : Int32} {x2 : Int32} {x3 : Int32} {x4 : Int32}
    (h : ((I 84 28) ≤ x4 →
        ((¬ x4 = (I 84 28) →
          (vp_in x4 64 ∧ vp_in x4 64 ∧ mc_WP (113, 19, [.ref 84, .int x1, .int (x2 + (1 : Int32)), .int x3, .int x4], [], ((mc_up I 101 x4.toNatClampNeg ((I 101 x4.toNatClampNeg) + (1 : Int32))), J, rf_w r, sh_w N, n), (0, 0)) Q)) ∧
          (¬ (¬ x4 = (I 84 28)) →
          (vp_in x4 64 ∧ vp_in x4 64 ∧ vp_in x4 64 ∧ vp_in x4 64 ∧ vp_in x4 64 ∧ mc_WP (113, 19, [.ref 84, .int x1, .int (x2 + (1 : Int32)), .int x3, .int x4], [], ((mc_up (mc_up (mc_up (mc_up (mc_up I 100 x4.toNatClampNeg x3) 101 x4.toNatClampNeg (0 : Int32)) 102 x4.toNatClampNeg (0 : Int32)) 84 28 ((I 84 28) + (1 : Int32))) 101 x4.toNatClampNeg (((mc_up (mc_up I 100 x4.toNatClampNeg x3) 101 x4.toNatClampNeg (0 : Int32)) 101 x4.toNatClampNeg) + (1 : Int32))), J, rf_w r, sh_w N, n), (0, 0)) Q)))) ∧
        (¬ ((I 84 28) ≤ x4) →
        (vp_in x4 64 ∧ ((I 100 x4.toNatClampNeg) = x3 →
          ((¬ x4 = (I 84 28) →
            (vp_in x4 64 ∧ vp_in x4 64 ∧ mc_WP (113, 19, [.ref 84, .int x1, .int (x2 + (1 : Int32)), .int x3, .int x4], [], ((mc_up I 101 x4.toNatClampNeg ((I 101 x4.toNatClampNeg) + (1 : Int32))), J, rf_w r, sh_w N, n), (0, 0)) Q)) ∧
            (¬ (¬ x4 = (I 84 28)) →
            (vp_in x4 64 ∧ vp_in x4 64 ∧ vp_in x4 64 ∧ vp_in x4 64 ∧ vp_in x4 64 ∧ mc_WP (113, 19, [.ref 84, .int x1, .int (x2 + (1 : Int32)), .int x3, .int x4], [], ((mc_up (mc_up (mc_up (mc_up (mc_up I 100 x4.toNatClampNeg x3) 101 x4.toNatClampNeg (0 : Int32)) 102 x4.toNatClampNeg (0 : Int32)) 84 28 ((I 84 28) + (1 : Int32))) 101 x4.toNatClampNeg (((mc_up (mc_up I 100 x4.toNatClampNeg x3) 101 x4.toNatClampNeg (0 : Int32)) 101 x4.toNatClampNeg) + (1 : Int32))), J, rf_w r, sh_w N, n), (0, 0)) Q)))) ∧
          (¬ ((I 100 x4.toNatClampNeg) = x3) →
          (mc_WP (113, 44, [.ref 84, .int x1, .int x2, .int x3, .int (x4 + (1 : Int32))], [], (I, J, rf_w r, sh_w N, n), (0, 0)) Q))))) :
    mc_WP (113, 44, [.ref 84, .int x1, .int x2, .int x3, .int x4], [], (I, J, rf_w r, sh_w N, n), (0, 0)) Q := by
  exact (mc_WP.run (mc_adjs _) 4 (And.intro rfl (And.intro (fun c10 => (mc_WP.run (mc_adjs _) 4 (And.intro rfl (And.intro (fun c11 => (mc_WP.run (mc_adjs _) 10 (And.intro ⟨rfl, (show ¬ (101 : Nat) = 0 by decide)⟩ (And.intro (wl_ld rfl ((h.1 c10).1 c11).1) (And.intro (wl_st rfl ((h.1 c10).1 c11).2.1 (show 10 ≤ (101 : Nat) by decide)) ((h.1 c10).1 c11).2.2))))) (fun c11 => (mc_WP.run (mc_adjs _) 31 (And.intro ⟨rfl, (show ¬ (100 : Nat) = 0 by decide)⟩ (And.intro (wl_st rfl ((h.1 c10).2 c11).1 (show 10 ≤ (100 : Nat) by decide)) (And.intro ⟨rfl, (show ¬ (101 : Nat) = 0 by decide)⟩ (And.intro (wl_st rfl ((h.1 c10).2 c11).2.1 (show 10 ≤ (101 : Nat) by decide)) (And.intro ⟨rfl, (show ¬ (102 : Nat) = 0 by decide)⟩ (And.intro (wl_st rfl ((h.1 c10).2 c11).2.2.1 (show 10 ≤ (102 : Nat) by decide)) (And.intro rfl (And.intro rfl (And.intro ⟨rfl, (show ¬ (101 : Nat) = 0 by decide)⟩ (And.intro (wl_ld rfl ((h.1 c10).2 c11).2.2.2.1) (And.intro (wl_st rfl ((h.1 c10).2 c11).2.2.2.2.1 (show 10 ≤ (101 : Nat) by decide)) ((h.1 c10).2 c11).2.2.2.2.2))))))))))))))))) (fun c10 => (mc_WP.run (mc_adjs _) 6 (And.intro ⟨rfl, (show ¬ (100 : Nat) = 0 by decide)⟩ (And.intro (wl_ld rfl (h.2 c10).1) (And.intro (fun c12 => (mc_WP.run (mc_adjs _) 4 (And.intro rfl (And.intro (fun c13 => (mc_WP.run (mc_adjs _) 10 (And.intro ⟨rfl, (show ¬ (101 : Nat) = 0 by decide)⟩ (And.intro (wl_ld rfl (((h.2 c10).2.1 c12).1 c13).1) (And.intro (wl_st rfl (((h.2 c10).2.1 c12).1 c13).2.1 (show 10 ≤ (101 : Nat) by decide)) (((h.2 c10).2.1 c12).1 c13).2.2))))) (fun c13 => (mc_WP.run (mc_adjs _) 31 (And.intro ⟨rfl, (show ¬ (100 : Nat) = 0 by decide)⟩ (And.intro (wl_st rfl (((h.2 c10).2.1 c12).2 c13).1 (show 10 ≤ (100 : Nat) by decide)) (And.intro ⟨rfl, (show ¬ (101 : Nat) = 0 by decide)⟩ (And.intro (wl_st rfl (((h.2 c10).2.1 c12).2 c13).2.1 (show 10 ≤ (101 : Nat) by decide)) (And.intro ⟨rfl, (show ¬ (102 : Nat) = 0 by decide)⟩ (And.intro (wl_st rfl (((h.2 c10).2.1 c12).2 c13).2.2.1 (show 10 ≤ (102 : Nat) by decide)) (And.intro rfl (And.intro rfl (And.intro ⟨rfl, (show ¬ (101 : Nat) = 0 by decide)⟩ (And.intro (wl_ld rfl (((h.2 c10).2.1 c12).2 c13).2.2.2.1) (And.intro (wl_st rfl (((h.2 c10).2.1 c12).2 c13).2.2.2.2.1 (show 10 ≤ (101 : Nat) by decide)) (((h.2 c10).2.1 c12).2 c13).2.2.2.2.2))))))))))))))))) (fun c12 => (mc_WP.run (mc_adjs _) 2 ((h.2 c10).2.2 c12)))))))))))
-- 114 spread(II)I inl<=6
set_option maxRecDepth 20000 in
theorem bk_114_0 {x1 : Int32} {x2 : Int32}
    (h : mc_WP (114, 10, [.ref 84, .int x1, .int x2, .int (256 : Int32), .int (-1 : Int32), .int (0 : Int32), .null], [], (I, J, rf_w r, sh_w N, n), (0, 0)) Q) :
    mc_WP (mc_en 114 [.ref 84, .int x1, .int x2] (I, J, rf_w r, sh_w N, n)) Q := by
  exact (mc_WP.run (mc_adjs _) 6 h)
set_option maxRecDepth 20000 in
theorem bk_114_10 {x1 : Int32} {x2 : Int32} {x3 : Int32} {x4 : Int32} {x5 : Int32} {x6 : Value}
    (h : ((I 84 28) ≤ x5 → (Q (.inl (some (.int (x4 - x3)))) (I, J, rf_w r, sh_w N, n))) ∧
        (¬ ((I 84 28) ≤ x5) →
        (vp_in x5 64 ∧ vp_in x5 64 ∧ (¬ (I 102 x5.toNatClampNeg) = x1 →
          (vp_in x5 64 ∧ (¬ (I 102 x5.toNatClampNeg) = x1 →
            (mc_WP (114, 10, [.ref 84, .int x1, .int x2, .int x3, .int x4, .int (x5 + (1 : Int32)), .int (((I 100 x5.toNatClampNeg) >>> (((16 : Int32) - ((8 : Int32) * x2)) &&& 31)) &&& (255 : Int32))], [], (I, J, rf_w r, sh_w N, n), (0, 0)) Q)) ∧
            (¬ (¬ (I 102 x5.toNatClampNeg) = x1) →
            (((((I 100 x5.toNatClampNeg) >>> (((16 : Int32) - ((8 : Int32) * x2)) &&& 31)) &&& (255 : Int32)) ≤ x4 →
              (mc_WP (114, 10, [.ref 84, .int x1, .int x2, .int x3, .int x4, .int (x5 + (1 : Int32)), .int (((I 100 x5.toNatClampNeg) >>> (((16 : Int32) - ((8 : Int32) * x2)) &&& 31)) &&& (255 : Int32))], [], (I, J, rf_w r, sh_w N, n), (0, 0)) Q)) ∧
              (¬ ((((I 100 x5.toNatClampNeg) >>> (((16 : Int32) - ((8 : Int32) * x2)) &&& 31)) &&& (255 : Int32)) ≤ x4) →
              (mc_WP (114, 10, [.ref 84, .int x1, .int x2, .int x3, .int (((I 100 x5.toNatClampNeg) >>> (((16 : Int32) - ((8 : Int32) * x2)) &&& 31)) &&& (255 : Int32)), .int (x5 + (1 : Int32)), .int (((I 100 x5.toNatClampNeg) >>> (((16 : Int32) - ((8 : Int32) * x2)) &&& 31)) &&& (255 : Int32))], [], (I, J, rf_w r, sh_w N, n), (0, 0)) Q)))))) ∧
          (¬ (¬ (I 102 x5.toNatClampNeg) = x1) →
          ((x3 ≤ (((I 100 x5.toNatClampNeg) >>> (((16 : Int32) - ((8 : Int32) * x2)) &&& 31)) &&& (255 : Int32)) →
            (vp_in x5 64 ∧ (¬ (I 102 x5.toNatClampNeg) = x1 →
              (mc_WP (114, 10, [.ref 84, .int x1, .int x2, .int x3, .int x4, .int (x5 + (1 : Int32)), .int (((I 100 x5.toNatClampNeg) >>> (((16 : Int32) - ((8 : Int32) * x2)) &&& 31)) &&& (255 : Int32))], [], (I, J, rf_w r, sh_w N, n), (0, 0)) Q)) ∧
              (¬ (¬ (I 102 x5.toNatClampNeg) = x1) →
              (((((I 100 x5.toNatClampNeg) >>> (((16 : Int32) - ((8 : Int32) * x2)) &&& 31)) &&& (255 : Int32)) ≤ x4 →
                (mc_WP (114, 10, [.ref 84, .int x1, .int x2, .int x3, .int x4, .int (x5 + (1 : Int32)), .int (((I 100 x5.toNatClampNeg) >>> (((16 : Int32) - ((8 : Int32) * x2)) &&& 31)) &&& (255 : Int32))], [], (I, J, rf_w r, sh_w N, n), (0, 0)) Q)) ∧
                (¬ ((((I 100 x5.toNatClampNeg) >>> (((16 : Int32) - ((8 : Int32) * x2)) &&& 31)) &&& (255 : Int32)) ≤ x4) →
                (mc_WP (114, 10, [.ref 84, .int x1, .int x2, .int x3, .int (((I 100 x5.toNatClampNeg) >>> (((16 : Int32) - ((8 : Int32) * x2)) &&& 31)) &&& (255 : Int32)), .int (x5 + (1 : Int32)), .int (((I 100 x5.toNatClampNeg) >>> (((16 : Int32) - ((8 : Int32) * x2)) &&& 31)) &&& (255 : Int32))], [], (I, J, rf_w r, sh_w N, n), (0, 0)) Q)))))) ∧
            (¬ (x3 ≤ (((I 100 x5.toNatClampNeg) >>> (((16 : Int32) - ((8 : Int32) * x2)) &&& 31)) &&& (255 : Int32))) →
            (vp_in x5 64 ∧ (¬ (I 102 x5.toNatClampNeg) = x1 →
              (mc_WP (114, 10, [.ref 84, .int x1, .int x2, .int (((I 100 x5.toNatClampNeg) >>> (((16 : Int32) - ((8 : Int32) * x2)) &&& 31)) &&& (255 : Int32)), .int x4, .int (x5 + (1 : Int32)), .int (((I 100 x5.toNatClampNeg) >>> (((16 : Int32) - ((8 : Int32) * x2)) &&& 31)) &&& (255 : Int32))], [], (I, J, rf_w r, sh_w N, n), (0, 0)) Q)) ∧
              (¬ (¬ (I 102 x5.toNatClampNeg) = x1) →
              (((((I 100 x5.toNatClampNeg) >>> (((16 : Int32) - ((8 : Int32) * x2)) &&& 31)) &&& (255 : Int32)) ≤ x4 →
                (mc_WP (114, 10, [.ref 84, .int x1, .int x2, .int (((I 100 x5.toNatClampNeg) >>> (((16 : Int32) - ((8 : Int32) * x2)) &&& 31)) &&& (255 : Int32)), .int x4, .int (x5 + (1 : Int32)), .int (((I 100 x5.toNatClampNeg) >>> (((16 : Int32) - ((8 : Int32) * x2)) &&& 31)) &&& (255 : Int32))], [], (I, J, rf_w r, sh_w N, n), (0, 0)) Q)) ∧
                (¬ ((((I 100 x5.toNatClampNeg) >>> (((16 : Int32) - ((8 : Int32) * x2)) &&& 31)) &&& (255 : Int32)) ≤ x4) →
                (mc_WP (114, 10, [.ref 84, .int x1, .int x2, .int (((I 100 x5.toNatClampNeg) >>> (((16 : Int32) - ((8 : Int32) * x2)) &&& 31)) &&& (255 : Int32)), .int (((I 100 x5.toNatClampNeg) >>> (((16 : Int32) - ((8 : Int32) * x2)) &&& 31)) &&& (255 : Int32)), .int (x5 + (1 : Int32)), .int (((I 100 x5.toNatClampNeg) >>> (((16 : Int32) - ((8 : Int32) * x2)) &&& 31)) &&& (255 : Int32))], [], (I, J, rf_w r, sh_w N, n), (0, 0)) Q))))))))))) :
    mc_WP (114, 10, [.ref 84, .int x1, .int x2, .int x3, .int x4, .int x5, x6], [], (I, J, rf_w r, sh_w N, n), (0, 0)) Q := by
  exact (mc_WP.run (mc_adjs _) 4 (And.intro rfl (And.intro (fun c26 => (mc_WP.run (mc_adjs _) 4 (h.1 c26))) (fun c26 => (mc_WP.run (mc_adjs _) 6 (And.intro ⟨rfl, (show ¬ (100 : Nat) = 0 by decide)⟩ (And.intro (wl_ld rfl (h.2 c26).1) (And.intro (by decide) (And.intro (by decide) (mc_inl (mc_WP.run (mc_adjs _) 10 (mc_WP.run (mc_adjs _) 7 (And.intro ⟨rfl, (show ¬ (102 : Nat) = 0 by decide)⟩ (And.intro (wl_ld rfl (h.2 c26).2.1) (And.intro (fun c27 => (mc_WP.run (mc_adjs _) 8 (And.intro ⟨rfl, (show ¬ (102 : Nat) = 0 by decide)⟩ (And.intro (wl_ld rfl ((h.2 c26).2.2.1 c27).1) (And.intro (fun c28 => (mc_WP.run (mc_adjs _) 4 (((h.2 c26).2.2.1 c27).2.1 c28))) (fun c28 => (mc_WP.run (mc_adjs _) 3 (And.intro (fun c29 => (mc_WP.run (mc_adjs _) 4 ((((h.2 c26).2.2.1 c27).2.2 c28).1 c29))) (fun c29 => (mc_WP.run (mc_adjs _) 2 (mc_WP.run (mc_adjs _) 3 ((((h.2 c26).2.2.1 c27).2.2 c28).2 c29)))))))))))) (fun c27 => (mc_WP.run (mc_adjs _) 3 (And.intro (fun c30 => (mc_WP.run (mc_adjs _) 8 (And.intro ⟨rfl, (show ¬ (102 : Nat) = 0 by decide)⟩ (And.intro (wl_ld rfl (((h.2 c26).2.2.2 c27).1 c30).1) (And.intro (fun c31 => (mc_WP.run (mc_adjs _) 4 ((((h.2 c26).2.2.2 c27).1 c30).2.1 c31))) (fun c31 => (mc_WP.run (mc_adjs _) 3 (And.intro (fun c32 => (mc_WP.run (mc_adjs _) 4 (((((h.2 c26).2.2.2 c27).1 c30).2.2 c31).1 c32))) (fun c32 => (mc_WP.run (mc_adjs _) 2 (mc_WP.run (mc_adjs _) 3 (((((h.2 c26).2.2.2 c27).1 c30).2.2 c31).2 c32)))))))))))) (fun c30 => (mc_WP.run (mc_adjs _) 2 (mc_WP.run (mc_adjs _) 7 (And.intro ⟨rfl, (show ¬ (102 : Nat) = 0 by decide)⟩ (And.intro (wl_ld rfl (((h.2 c26).2.2.2 c27).2 c30).1) (And.intro (fun c33 => (mc_WP.run (mc_adjs _) 4 ((((h.2 c26).2.2.2 c27).2 c30).2.1 c33))) (fun c33 => (mc_WP.run (mc_adjs _) 3 (And.intro (fun c34 => (mc_WP.run (mc_adjs _) 4 (((((h.2 c26).2.2.2 c27).2 c30).2.2 c33).1 c34))) (fun c34 => (mc_WP.run (mc_adjs _) 2 (mc_WP.run (mc_adjs _) 3 (((((h.2 c26).2.2.2 c27).2 c30).2.2 c33).2 c34)))))))))))))))))))))))))))))))
-- 115 widest(I)I inl<=6
set_option maxRecDepth 20000 in
theorem bk_115_0 {x1 : Int32}
    (h : ∃ R : mc_Q, mc_WP (mc_en 114 [.ref 84, .int x1, .int (1 : Int32)] (I, J, rf_w r, sh_w N, n)) R ∧ (∀ v t, R (.inl v) t → mc_WP (115, 6, [.ref 84, .int x1, .null], v.toList ++ [], t, (0, 0)) Q) ∧ (∀ k t, R (.inr k) t → Q (.inr k) t)) :
    mc_WP (mc_en 115 [.ref 84, .int x1] (I, J, rf_w r, sh_w N, n)) Q := by
  exact (mc_WP.run (mc_adjs _) 4 (And.intro rfl (And.intro (by decide) (And.intro (by decide) h))))
set_option maxRecDepth 20000 in
theorem bk_115_6 {x1 : Int32} {y0 : Int32}
    (h : ∃ R : mc_Q, mc_WP (mc_en 114 [.ref 84, .int x1, .int (0 : Int32)] (I, J, rf_w r, sh_w N, n)) R ∧ (∀ v t, R (.inl v) t → mc_WP (115, 12, [.ref 84, .int x1, .null], v.toList ++ [.int y0], t, (0, 0)) Q) ∧ (∀ k t, R (.inr k) t → Q (.inr k) t)) :
    mc_WP (115, 6, [.ref 84, .int x1, .null], [.int y0], (I, J, rf_w r, sh_w N, n), (0, 0)) Q := by
  exact (mc_WP.run (mc_adjs _) 4 (And.intro rfl (And.intro (by decide) (And.intro (by decide) h))))
set_option maxRecDepth 20000 in
theorem bk_115_12 {x1 : Int32} {y0 : Int32} {y1 : Int32}
    (h : (y0 ≤ y1 →
        (∃ R : mc_Q, mc_WP (mc_en 114 [.ref 84, .int x1, .int (2 : Int32)] (I, J, rf_w r, sh_w N, n)) R ∧ (∀ v t, R (.inl v) t → mc_WP (115, 27, [.ref 84, .int x1, .int (0 : Int32)], v.toList ++ [], t, (0, 0)) Q) ∧ (∀ k t, R (.inr k) t → Q (.inr k) t))) ∧
        (¬ (y0 ≤ y1) →
        (∃ R : mc_Q, mc_WP (mc_en 114 [.ref 84, .int x1, .int (2 : Int32)] (I, J, rf_w r, sh_w N, n)) R ∧ (∀ v t, R (.inl v) t → mc_WP (115, 27, [.ref 84, .int x1, .int (1 : Int32)], v.toList ++ [], t, (0, 0)) Q) ∧ (∀ k t, R (.inr k) t → Q (.inr k) t)))) :
    mc_WP (115, 12, [.ref 84, .int x1, .null], [.int y1, .int y0], (I, J, rf_w r, sh_w N, n), (0, 0)) Q := by
  exact (mc_WP.run (mc_adjs _) 1 (And.intro (fun c5 => (mc_WP.run (mc_adjs _) 6 (And.intro rfl (And.intro (by decide) (And.intro (by decide) (h.1 c5)))))) (fun c5 => (mc_WP.run (mc_adjs _) 2 (mc_WP.run (mc_adjs _) 5 (And.intro rfl (And.intro (by decide) (And.intro (by decide) (h.2 c5)))))))))
set_option maxRecDepth 20000 in
theorem bk_115_27 {x1 : Int32} {x2 : Int32} {y0 : Int32}
    (h : ∃ R : mc_Q, mc_WP (mc_en 114 [.ref 84, .int x1, .int x2] (I, J, rf_w r, sh_w N, n)) R ∧ (∀ v t, R (.inl v) t → mc_WP (115, 33, [.ref 84, .int x1, .int x2], v.toList ++ [.int y0], t, (0, 0)) Q) ∧ (∀ k t, R (.inr k) t → Q (.inr k) t)) :
    mc_WP (115, 27, [.ref 84, .int x1, .int x2], [.int y0], (I, J, rf_w r, sh_w N, n), (0, 0)) Q := by
  exact (mc_WP.run (mc_adjs _) 4 (And.intro rfl (And.intro (by decide) (And.intro (by decide) h))))
set_option maxRecDepth 20000 in
theorem bk_115_33 {x1 : Int32} {x2 : Int32} {y0 : Int32} {y1 : Int32}
    (h : (y0 ≤ y1 → (Q (.inl (some (.int x2))) (I, J, rf_w r, sh_w N, n))) ∧
        (¬ (y0 ≤ y1) → (Q (.inl (some (.int (2 : Int32)))) (I, J, rf_w r, sh_w N, n)))) :
    mc_WP (115, 33, [.ref 84, .int x1, .int x2], [.int y1, .int y0], (I, J, rf_w r, sh_w N, n), (0, 0)) Q := by
  exact (mc_WP.run (mc_adjs _) 1 (And.intro (fun c5 => (mc_WP.run (mc_adjs _) 2 (h.1 c5))) (fun c5 => (mc_WP.run (mc_adjs _) 2 (mc_WP.run (mc_adjs _) 1 (h.2 c5))))))
-- 116 partOne()Z inl<=6
set_option maxRecDepth 20000 in
theorem bk_116_0
    (h : mc_WP (116, 6, [.ref 84, .int (0 : Int32), .int (0 : Int32), .int (0 : Int32), .null, .null, .null, .null, .null, .null, .null], [], (I, J, rf_w r, sh_w N, n), (0, 0)) Q) :
    mc_WP (mc_en 116 [.ref 84] (I, J, rf_w r, sh_w N, n)) Q := by
  exact (mc_WP.run (mc_adjs _) 6 h)
set_option maxRecDepth 20000 in
theorem bk_116_6 {x1 : Int32} {x2 : Int32} {x3 : Int32} {x4 : Value}
    (h : ((I 84 32) ≤ x3 →
        ((¬ x2 = 0 →
          (∃ R : mc_Q, mc_WP (mc_en 115 [.ref 84, .int x1] (I, J, rf_w r, sh_w N, n)) R ∧ (∀ v t, R (.inl v) t → mc_WP (116, 68, [.ref 84, .int x1, .int x2, .int x3, x4, .null, .null, .null, .null, .null, .null], v.toList ++ [], t, (0, 0)) Q) ∧ (∀ k t, R (.inr k) t → Q (.inr k) t))) ∧
          (¬ (¬ x2 = 0) → (Q (.inl (some (.int (0 : Int32)))) (I, J, rf_w r, sh_w N, n))))) ∧
        (¬ ((I 84 32) ≤ x3) →
        (∃ R : mc_Q, mc_WP (mc_en 115 [.ref 84, .int x3] (I, J, rf_w r, sh_w N, n)) R ∧ (∀ v t, R (.inl v) t → mc_WP (116, 21, [.ref 84, .int x1, .int x2, .int x3, x4, .null, .null, .null, .null, .null, .null], v.toList ++ [.int x3, .ref 84], t, (0, 0)) Q) ∧ (∀ k t, R (.inr k) t → Q (.inr k) t)))) :
    mc_WP (116, 6, [.ref 84, .int x1, .int x2, .int x3, x4, .null, .null, .null, .null, .null, .null], [], (I, J, rf_w r, sh_w N, n), (0, 0)) Q := by
  exact (mc_WP.run (mc_adjs _) 4 (And.intro rfl (And.intro (fun c6 => (mc_WP.run (mc_adjs _) 2 (And.intro (fun c7 => (mc_WP.run (mc_adjs _) 3 (And.intro rfl (And.intro (by decide) (And.intro (by decide) ((h.1 c6).1 c7)))))) (fun c7 => (mc_WP.run (mc_adjs _) 2 (And.intro (by decide) ((h.1 c6).2 c7))))))) (fun c6 => (mc_WP.run (mc_adjs _) 5 (And.intro rfl (And.intro (by decide) (And.intro (by decide) (h.2 c6)))))))))
set_option maxRecDepth 20000 in
theorem bk_116_21 {x1 : Int32} {x2 : Int32} {x3 : Int32} {x4 : Value} {y1 : Int32} {y2 : Int32}
    (h : ∃ R : mc_Q, mc_WP (mc_en 114 [.ref 84, .int y1, .int y2] (I, J, rf_w r, sh_w N, n)) R ∧ (∀ v t, R (.inl v) t → mc_WP (116, 24, [.ref 84, .int x1, .int x2, .int x3, x4, .null, .null, .null, .null, .null, .null], v.toList ++ [], t, (0, 0)) Q) ∧ (∀ k t, R (.inr k) t → Q (.inr k) t)) :
    mc_WP (116, 21, [.ref 84, .int x1, .int x2, .int x3, x4, .null, .null, .null, .null, .null, .null], [.int y2, .int y1, .ref 84], (I, J, rf_w r, sh_w N, n), (0, 0)) Q := by
  exact (mc_WP.run (mc_adjs _) 1 (And.intro rfl (And.intro (by decide) (And.intro (by decide) h))))
set_option maxRecDepth 20000 in
theorem bk_116_24 {x1 : Int32} {x2 : Int32} {x3 : Int32} {x4 : Value} {y0 : Int32}
    (h : (y0 ≤ x2 →
        ((y0 ≤ x2 →
          (mc_WP (116, 6, [.ref 84, .int x1, .int x2, .int (x3 + (1 : Int32)), .int y0, .null, .null, .null, .null, .null, .null], [], (I, J, rf_w r, sh_w N, n), (0, 0)) Q)) ∧
          (¬ (y0 ≤ x2) →
          (mc_WP (116, 6, [.ref 84, .int x1, .int y0, .int (x3 + (1 : Int32)), .int y0, .null, .null, .null, .null, .null, .null], [], (I, J, rf_w r, sh_w N, n), (0, 0)) Q)))) ∧
        (¬ (y0 ≤ x2) →
        ((y0 ≤ x2 →
          (mc_WP (116, 6, [.ref 84, .int x3, .int x2, .int (x3 + (1 : Int32)), .int y0, .null, .null, .null, .null, .null, .null], [], (I, J, rf_w r, sh_w N, n), (0, 0)) Q)) ∧
          (¬ (y0 ≤ x2) →
          (mc_WP (116, 6, [.ref 84, .int x3, .int y0, .int (x3 + (1 : Int32)), .int y0, .null, .null, .null, .null, .null, .null], [], (I, J, rf_w r, sh_w N, n), (0, 0)) Q))))) :
    mc_WP (116, 24, [.ref 84, .int x1, .int x2, .int x3, x4, .null, .null, .null, .null, .null, .null], [.int y0], (I, J, rf_w r, sh_w N, n), (0, 0)) Q := by
  exact (mc_WP.run (mc_adjs _) 4 (And.intro (fun c11 => (mc_WP.run (mc_adjs _) 5 (And.intro (fun c12 => (mc_WP.run (mc_adjs _) 4 ((h.1 c11).1 c12))) (fun c12 => (mc_WP.run (mc_adjs _) 2 (mc_WP.run (mc_adjs _) 3 ((h.1 c11).2 c12))))))) (fun c11 => (mc_WP.run (mc_adjs _) 2 (mc_WP.run (mc_adjs _) 4 (And.intro (fun c13 => (mc_WP.run (mc_adjs _) 4 ((h.2 c11).1 c13))) (fun c13 => (mc_WP.run (mc_adjs _) 2 (mc_WP.run (mc_adjs _) 3 ((h.2 c11).2 c13))))))))))
set_option maxRecDepth 20000 in
theorem bk_116_68 {x1 : Int32} {x2 : Int32} {x3 : Int32} {x4 : Value} {y0 : Int32}
    (h : mc_WP (116, 78, [.ref 84, .int x1, .int x2, .int y0, .int (0 : Int32), .int (0 : Int32), .int (0 : Int32), .null, .null, .null, .null], [], (I, J, rf_w r, sh_w N, n), (0, 0)) Q) :
    mc_WP (116, 68, [.ref 84, .int x1, .int x2, .int x3, x4, .null, .null, .null, .null, .null, .null], [.int y0], (I, J, rf_w r, sh_w N, n), (0, 0)) Q := by
  exact (mc_WP.run (mc_adjs _) 7 h)
set_option maxRecDepth 20000 in
theorem bk_116_78 {x1 : Int32} {x2 : Int32} {x3 : Int32} {x4 : Int32} {x5 : Int32} {x6 : Int32}
    (h : ((I 84 28) ≤ x6 →
        (mc_WP (116, 149, [.ref 84, .int x1, .int x2, .int x3, .int x4, .int x5, .int (0 : Int32), .int (0 : Int32), .null, .null, .null], [], (I, J, rf_w r, sh_w N, n), (0, 0)) Q)) ∧
        (¬ ((I 84 28) ≤ x6) →
        (vp_in x6 64 ∧ (¬ (I 102 x6.toNatClampNeg) = x1 →
          (vp_in x6 64 ∧ (¬ (I 102 x6.toNatClampNeg) = x1 →
            (mc_WP (116, 78, [.ref 84, .int x1, .int x2, .int x3, .int x4, .int x5, .int (x6 + (1 : Int32)), .null, .null, .null, .null], [], (I, J, rf_w r, sh_w N, n), (0, 0)) Q)) ∧
            (¬ (¬ (I 102 x6.toNatClampNeg) = x1) →
            (mc_WP (116, 78, [.ref 84, .int x1, .int x2, .int x3, .int x4, .int (x5 + (1 : Int32)), .int (x6 + (1 : Int32)), .null, .null, .null, .null], [], (I, J, rf_w r, sh_w N, n), (0, 0)) Q)))) ∧
          (¬ (¬ (I 102 x6.toNatClampNeg) = x1) →
          (vp_in x6 64 ∧ vp_in x6 64 ∧ (¬ (I 102 x6.toNatClampNeg) = x1 →
            (mc_WP (116, 78, [.ref 84, .int x1, .int x2, .int x3, .int (x4 + (I 101 x6.toNatClampNeg)), .int x5, .int (x6 + (1 : Int32)), .null, .null, .null, .null], [], (I, J, rf_w r, sh_w N, n), (0, 0)) Q)) ∧
            (¬ (¬ (I 102 x6.toNatClampNeg) = x1) →
            (mc_WP (116, 78, [.ref 84, .int x1, .int x2, .int x3, .int (x4 + (I 101 x6.toNatClampNeg)), .int (x5 + (1 : Int32)), .int (x6 + (1 : Int32)), .null, .null, .null, .null], [], (I, J, rf_w r, sh_w N, n), (0, 0)) Q))))))) :
    mc_WP (116, 78, [.ref 84, .int x1, .int x2, .int x3, .int x4, .int x5, .int x6, .null, .null, .null, .null], [], (I, J, rf_w r, sh_w N, n), (0, 0)) Q := by
  exact (mc_WP.run (mc_adjs _) 4 (And.intro rfl (And.intro (fun c13 => (mc_WP.run (mc_adjs _) 4 (h.1 c13))) (fun c13 => (mc_WP.run (mc_adjs _) 6 (And.intro ⟨rfl, (show ¬ (102 : Nat) = 0 by decide)⟩ (And.intro (wl_ld rfl (h.2 c13).1) (And.intro (fun c14 => (mc_WP.run (mc_adjs _) 8 (And.intro ⟨rfl, (show ¬ (102 : Nat) = 0 by decide)⟩ (And.intro (wl_ld rfl ((h.2 c13).2.1 c14).1) (And.intro (fun c15 => (mc_WP.run (mc_adjs _) 4 (((h.2 c13).2.1 c14).2.1 c15))) (fun c15 => (mc_WP.run (mc_adjs _) 4 (mc_WP.run (mc_adjs _) 3 (((h.2 c13).2.1 c14).2.2 c15))))))))) (fun c14 => (mc_WP.run (mc_adjs _) 7 (And.intro ⟨rfl, (show ¬ (101 : Nat) = 0 by decide)⟩ (And.intro (wl_ld rfl ((h.2 c13).2.2 c14).1) (mc_WP.run (mc_adjs _) 7 (And.intro ⟨rfl, (show ¬ (102 : Nat) = 0 by decide)⟩ (And.intro (wl_ld rfl ((h.2 c13).2.2 c14).2.1) (And.intro (fun c16 => (mc_WP.run (mc_adjs _) 4 (((h.2 c13).2.2 c14).2.2.1 c16))) (fun c16 => (mc_WP.run (mc_adjs _) 4 (mc_WP.run (mc_adjs _) 3 (((h.2 c13).2.2 c14).2.2.2 c16))))))))))))))))))))
set_option maxRecDepth 20000 in
theorem bk_116_149 {x1 : Int32} {x2 : Int32} {x3 : Int32} {x4 : Int32} {x5 : Int32} {x6 : Int32} {x7 : Int32} {x8 : Value} {x9 : Value} {x10 : Value}
    (h : (x4 ≤ ((2 : Int32) * x6) →
        (mc_WP (116, 322, [.ref 84, .int x1, .int x2, .int x3, .int x4, .int x5, .int x6, .int x7, .int (0 : Int32), x9, x10], [], (I, J, rf_w r, sh_w N, n), (0, 0)) Q)) ∧
        (¬ (x4 ≤ ((2 : Int32) * x6)) →
        (((x5 - (1 : Int32)) ≤ x7 →
          (mc_WP (116, 322, [.ref 84, .int x1, .int x2, .int x3, .int x4, .int x5, .int x6, .int x7, .int (0 : Int32), x9, x10], [], (I, J, rf_w r, sh_w N, n), (0, 0)) Q)) ∧
          (¬ ((x5 - (1 : Int32)) ≤ x7) →
          (mc_WP (116, 173, [.ref 84, .int x1, .int x2, .int x3, .int x4, .int x5, .int x6, .int x7, .int (-1 : Int32), .int (0 : Int32), x10], [], (I, J, rf_w r, sh_w N, n), (0, 0)) Q))))) :
    mc_WP (116, 149, [.ref 84, .int x1, .int x2, .int x3, .int x4, .int x5, .int x6, .int x7, x8, x9, x10], [], (I, J, rf_w r, sh_w N, n), (0, 0)) Q := by
  exact (mc_WP.run (mc_adjs _) 5 (And.intro (fun c6 => (mc_WP.run (mc_adjs _) 2 (h.1 c6))) (fun c6 => (mc_WP.run (mc_adjs _) 5 (And.intro (fun c7 => (mc_WP.run (mc_adjs _) 2 ((h.2 c6).1 c7))) (fun c7 => (mc_WP.run (mc_adjs _) 4 ((h.2 c6).2 c7))))))))
set_option maxRecDepth 20000 in
theorem bk_116_173 {x1 : Int32} {x2 : Int32} {x3 : Int32} {x4 : Int32} {x5 : Int32} {x6 : Int32} {x7 : Int32} {x8 : Int32} {x9 : Int32} {x10 : Value}
    (h : ((I 84 28) ≤ x9 →
        (vp_in x8 64 ∧ vp_in x8 64 ∧ mc_WP (116, 149, [.ref 84, .int x1, .int x2, .int x3, .int x4, .int x5, .int (x6 + (I 101 x8.toNatClampNeg)), .int (x7 + (1 : Int32)), .int x8, .int x9, x10], [], ((mc_up I 102 x8.toNatClampNeg (100 : Int32)), J, rf_w r, sh_w N, n), (0, 0)) Q)) ∧
        (¬ ((I 84 28) ≤ x9) →
        ((x8 < 0 →
          (vp_in x9 64 ∧ (¬ (I 102 x9.toNatClampNeg) = x1 →
            (mc_WP (116, 173, [.ref 84, .int x1, .int x2, .int x3, .int x4, .int x5, .int x6, .int x7, .int x8, .int (x9 + (1 : Int32)), .int (1 : Int32)], [], (I, J, rf_w r, sh_w N, n), (0, 0)) Q)) ∧
            (¬ (¬ (I 102 x9.toNatClampNeg) = x1) →
            (mc_WP (116, 173, [.ref 84, .int x1, .int x2, .int x3, .int x4, .int x5, .int x6, .int x7, .int x9, .int (x9 + (1 : Int32)), .int (1 : Int32)], [], (I, J, rf_w r, sh_w N, n), (0, 0)) Q)))) ∧
          (¬ (x8 < 0) →
          (vp_in x9 64 ∧ vp_in x8 64 ∧ ((((I 100 x9.toNatClampNeg) >>> (((16 : Int32) - ((8 : Int32) * x3)) &&& 31)) &&& (255 : Int32)) < (((I 100 x8.toNatClampNeg) >>> (((16 : Int32) - ((8 : Int32) * x3)) &&& 31)) &&& (255 : Int32)) →
            (vp_in x9 64 ∧ (¬ (I 102 x9.toNatClampNeg) = x1 →
              (mc_WP (116, 173, [.ref 84, .int x1, .int x2, .int x3, .int x4, .int x5, .int x6, .int x7, .int x8, .int (x9 + (1 : Int32)), .int (1 : Int32)], [], (I, J, rf_w r, sh_w N, n), (0, 0)) Q)) ∧
              (¬ (¬ (I 102 x9.toNatClampNeg) = x1) →
              (mc_WP (116, 173, [.ref 84, .int x1, .int x2, .int x3, .int x4, .int x5, .int x6, .int x7, .int x9, .int (x9 + (1 : Int32)), .int (1 : Int32)], [], (I, J, rf_w r, sh_w N, n), (0, 0)) Q)))) ∧
            (¬ ((((I 100 x9.toNatClampNeg) >>> (((16 : Int32) - ((8 : Int32) * x3)) &&& 31)) &&& (255 : Int32)) < (((I 100 x8.toNatClampNeg) >>> (((16 : Int32) - ((8 : Int32) * x3)) &&& 31)) &&& (255 : Int32))) →
            (vp_in x9 64 ∧ vp_in x8 64 ∧ (¬ (((I 100 x9.toNatClampNeg) >>> (((16 : Int32) - ((8 : Int32) * x3)) &&& 31)) &&& (255 : Int32)) = (((I 100 x8.toNatClampNeg) >>> (((16 : Int32) - ((8 : Int32) * x3)) &&& 31)) &&& (255 : Int32)) →
              (vp_in x9 64 ∧ (¬ (I 102 x9.toNatClampNeg) = x1 →
                (mc_WP (116, 173, [.ref 84, .int x1, .int x2, .int x3, .int x4, .int x5, .int x6, .int x7, .int x8, .int (x9 + (1 : Int32)), .int (0 : Int32)], [], (I, J, rf_w r, sh_w N, n), (0, 0)) Q)) ∧
                (¬ (¬ (I 102 x9.toNatClampNeg) = x1) →
                (mc_WP (116, 173, [.ref 84, .int x1, .int x2, .int x3, .int x4, .int x5, .int x6, .int x7, .int x8, .int (x9 + (1 : Int32)), .int (0 : Int32)], [], (I, J, rf_w r, sh_w N, n), (0, 0)) Q)))) ∧
              (¬ (¬ (((I 100 x9.toNatClampNeg) >>> (((16 : Int32) - ((8 : Int32) * x3)) &&& 31)) &&& (255 : Int32)) = (((I 100 x8.toNatClampNeg) >>> (((16 : Int32) - ((8 : Int32) * x3)) &&& 31)) &&& (255 : Int32))) →
              (vp_in x9 64 ∧ vp_in x8 64 ∧ ((I 100 x8.toNatClampNeg) ≤ (I 100 x9.toNatClampNeg) →
                (vp_in x9 64 ∧ (¬ (I 102 x9.toNatClampNeg) = x1 →
                  (mc_WP (116, 173, [.ref 84, .int x1, .int x2, .int x3, .int x4, .int x5, .int x6, .int x7, .int x8, .int (x9 + (1 : Int32)), .int (0 : Int32)], [], (I, J, rf_w r, sh_w N, n), (0, 0)) Q)) ∧
                  (¬ (¬ (I 102 x9.toNatClampNeg) = x1) →
                  (mc_WP (116, 173, [.ref 84, .int x1, .int x2, .int x3, .int x4, .int x5, .int x6, .int x7, .int x8, .int (x9 + (1 : Int32)), .int (0 : Int32)], [], (I, J, rf_w r, sh_w N, n), (0, 0)) Q)))) ∧
                (¬ ((I 100 x8.toNatClampNeg) ≤ (I 100 x9.toNatClampNeg)) →
                (vp_in x9 64 ∧ (¬ (I 102 x9.toNatClampNeg) = x1 →
                  (mc_WP (116, 173, [.ref 84, .int x1, .int x2, .int x3, .int x4, .int x5, .int x6, .int x7, .int x8, .int (x9 + (1 : Int32)), .int (1 : Int32)], [], (I, J, rf_w r, sh_w N, n), (0, 0)) Q)) ∧
                  (¬ (¬ (I 102 x9.toNatClampNeg) = x1) →
                  (mc_WP (116, 173, [.ref 84, .int x1, .int x2, .int x3, .int x4, .int x5, .int x6, .int x7, .int x9, .int (x9 + (1 : Int32)), .int (1 : Int32)], [], (I, J, rf_w r, sh_w N, n), (0, 0)) Q))))))))))))) :
    mc_WP (116, 173, [.ref 84, .int x1, .int x2, .int x3, .int x4, .int x5, .int x6, .int x7, .int x8, .int x9, x10], [], (I, J, rf_w r, sh_w N, n), (0, 0)) Q := by
  exact (mc_WP.run (mc_adjs _) 4 (And.intro rfl (And.intro (fun c41 => (mc_WP.run (mc_adjs _) 14 (And.intro ⟨rfl, (show ¬ (102 : Nat) = 0 by decide)⟩ (And.intro (wl_st rfl (h.1 c41).1 (show 10 ≤ (102 : Nat) by decide)) (And.intro ⟨rfl, (show ¬ (101 : Nat) = 0 by decide)⟩ (And.intro (wl_ld rfl (h.1 c41).2.1) (h.1 c41).2.2)))))) (fun c41 => (mc_WP.run (mc_adjs _) 2 (And.intro (fun c42 => (mc_WP.run (mc_adjs _) 2 (mc_WP.run (mc_adjs _) 7 (And.intro ⟨rfl, (show ¬ (102 : Nat) = 0 by decide)⟩ (And.intro (wl_ld rfl ((h.2 c41).1 c42).1) (And.intro (fun c43 => (mc_WP.run (mc_adjs _) 4 (((h.2 c41).1 c42).2.1 c43))) (fun c43 => (mc_WP.run (mc_adjs _) 2 (And.intro (fun c => absurd c (show ¬ ((1 : Int32) = 0) by decide)) (fun _ => (mc_WP.run (mc_adjs _) 2 (mc_WP.run (mc_adjs _) 3 (((h.2 c41).1 c42).2.2 c43))))))))))))) (fun c42 => (mc_WP.run (mc_adjs _) 6 (And.intro ⟨rfl, (show ¬ (100 : Nat) = 0 by decide)⟩ (And.intro (wl_ld rfl ((h.2 c41).2 c42).1) (And.intro (by decide) (And.intro (by decide) (mc_inl (mc_WP.run (mc_adjs _) 10 (mc_WP.run (mc_adjs _) 6 (And.intro ⟨rfl, (show ¬ (100 : Nat) = 0 by decide)⟩ (And.intro (wl_ld rfl ((h.2 c41).2 c42).2.1) (And.intro (by decide) (And.intro (by decide) (mc_inl (mc_WP.run (mc_adjs _) 10 (mc_WP.run (mc_adjs _) 1 (And.intro (fun c44 => (mc_WP.run (mc_adjs _) 2 (mc_WP.run (mc_adjs _) 7 (And.intro ⟨rfl, (show ¬ (102 : Nat) = 0 by decide)⟩ (And.intro (wl_ld rfl (((h.2 c41).2 c42).2.2.1 c44).1) (And.intro (fun c45 => (mc_WP.run (mc_adjs _) 4 ((((h.2 c41).2 c42).2.2.1 c44).2.1 c45))) (fun c45 => (mc_WP.run (mc_adjs _) 2 (And.intro (fun c => absurd c (show ¬ ((1 : Int32) = 0) by decide)) (fun _ => (mc_WP.run (mc_adjs _) 2 (mc_WP.run (mc_adjs _) 3 ((((h.2 c41).2 c42).2.2.1 c44).2.2 c45))))))))))))) (fun c44 => (mc_WP.run (mc_adjs _) 6 (And.intro ⟨rfl, (show ¬ (100 : Nat) = 0 by decide)⟩ (And.intro (wl_ld rfl (((h.2 c41).2 c42).2.2.2 c44).1) (And.intro (by decide) (And.intro (by decide) (mc_inl (mc_WP.run (mc_adjs _) 10 (mc_WP.run (mc_adjs _) 6 (And.intro ⟨rfl, (show ¬ (100 : Nat) = 0 by decide)⟩ (And.intro (wl_ld rfl (((h.2 c41).2 c42).2.2.2 c44).2.1) (And.intro (by decide) (And.intro (by decide) (mc_inl (mc_WP.run (mc_adjs _) 10 (mc_WP.run (mc_adjs _) 1 (And.intro (fun c46 => (mc_WP.run (mc_adjs _) 8 (And.intro ⟨rfl, (show ¬ (102 : Nat) = 0 by decide)⟩ (And.intro (wl_ld rfl ((((h.2 c41).2 c42).2.2.2 c44).2.2.1 c46).1) (And.intro (fun c47 => (mc_WP.run (mc_adjs _) 4 (((((h.2 c41).2 c42).2.2.2 c44).2.2.1 c46).2.1 c47))) (fun c47 => (mc_WP.run (mc_adjs _) 2 (And.intro (fun _ => (mc_WP.run (mc_adjs _) 4 (((((h.2 c41).2 c42).2.2.2 c44).2.2.1 c46).2.2 c47))) (fun c => absurd (show (0 : Int32) = 0 by decide) c))))))))) (fun c46 => (mc_WP.run (mc_adjs _) 9 (And.intro ⟨rfl, (show ¬ (100 : Nat) = 0 by decide)⟩ (And.intro (wl_ld rfl ((((h.2 c41).2 c42).2.2.2 c44).2.2.2 c46).1) (And.intro ⟨rfl, (show ¬ (100 : Nat) = 0 by decide)⟩ (And.intro (wl_ld rfl ((((h.2 c41).2 c42).2.2.2 c44).2.2.2 c46).2.1) (And.intro (fun c48 => (mc_WP.run (mc_adjs _) 8 (And.intro ⟨rfl, (show ¬ (102 : Nat) = 0 by decide)⟩ (And.intro (wl_ld rfl (((((h.2 c41).2 c42).2.2.2 c44).2.2.2 c46).2.2.1 c48).1) (And.intro (fun c49 => (mc_WP.run (mc_adjs _) 4 ((((((h.2 c41).2 c42).2.2.2 c44).2.2.2 c46).2.2.1 c48).2.1 c49))) (fun c49 => (mc_WP.run (mc_adjs _) 2 (And.intro (fun _ => (mc_WP.run (mc_adjs _) 4 ((((((h.2 c41).2 c42).2.2.2 c44).2.2.2 c46).2.2.1 c48).2.2 c49))) (fun c => absurd (show (0 : Int32) = 0 by decide) c))))))))) (fun c48 => (mc_WP.run (mc_adjs _) 2 (mc_WP.run (mc_adjs _) 7 (And.intro ⟨rfl, (show ¬ (102 : Nat) = 0 by decide)⟩ (And.intro (wl_ld rfl (((((h.2 c41).2 c42).2.2.2 c44).2.2.2 c46).2.2.2 c48).1) (And.intro (fun c50 => (mc_WP.run (mc_adjs _) 4 ((((((h.2 c41).2 c42).2.2.2 c44).2.2.2 c46).2.2.2 c48).2.1 c50))) (fun c50 => (mc_WP.run (mc_adjs _) 2 (And.intro (fun c => absurd c (show ¬ ((1 : Int32) = 0) by decide)) (fun _ => (mc_WP.run (mc_adjs _) 2 (mc_WP.run (mc_adjs _) 3 ((((((h.2 c41).2 c42).2.2.2 c44).2.2.2 c46).2.2.2 c48).2.2 c50))))))))))))))))))))))))))))))))))))))))))))))))))))))))))))
set_option maxRecDepth 20000 in
theorem bk_116_322 {x1 : Int32} {x2 : Int32} {x3 : Int32} {x4 : Int32} {x5 : Int32} {x6 : Int32} {x7 : Int32} {x8 : Int32} {x9 : Value} {x10 : Value}
    (h : ((I 84 28) ≤ x8 →
        (Q (.inl (some (.int (1 : Int32)))) ((mc_up I 84 32 ((I 84 32) + (1 : Int32))), J, rf_w r, sh_w N, n))) ∧
        (¬ ((I 84 28) ≤ x8) →
        (vp_in x8 64 ∧ (¬ (I 102 x8.toNatClampNeg) = x1 →
          (vp_in x8 64 ∧ (¬ (I 102 x8.toNatClampNeg) = (100 : Int32) →
            (vp_in x8 64 ∧ vp_in x8 64 ∧ mc_WP (116, 322, [.ref 84, .int x1, .int x2, .int x3, .int x4, .int x5, .int x6, .int x7, .int (x8 + (1 : Int32)), x9, x10], [], ((mc_up I 102 x8.toNatClampNeg (I 102 x8.toNatClampNeg)), J, rf_w r, sh_w N, n), (0, 0)) Q)) ∧
            (¬ (¬ (I 102 x8.toNatClampNeg) = (100 : Int32)) →
            (vp_in x8 64 ∧ mc_WP (116, 322, [.ref 84, .int x1, .int x2, .int x3, .int x4, .int x5, .int x6, .int x7, .int (x8 + (1 : Int32)), x9, x10], [], ((mc_up I 102 x8.toNatClampNeg x1), J, rf_w r, sh_w N, n), (0, 0)) Q)))) ∧
          (¬ (¬ (I 102 x8.toNatClampNeg) = x1) →
          (vp_in x8 64 ∧ mc_WP (116, 322, [.ref 84, .int x1, .int x2, .int x3, .int x4, .int x5, .int x6, .int x7, .int (x8 + (1 : Int32)), x9, x10], [], ((mc_up I 102 x8.toNatClampNeg (I 84 32)), J, rf_w r, sh_w N, n), (0, 0)) Q))))) :
    mc_WP (116, 322, [.ref 84, .int x1, .int x2, .int x3, .int x4, .int x5, .int x6, .int x7, .int x8, x9, x10], [], (I, J, rf_w r, sh_w N, n), (0, 0)) Q := by
  exact (mc_WP.run (mc_adjs _) 4 (And.intro rfl (And.intro (fun c10 => (mc_WP.run (mc_adjs _) 8 (And.intro rfl (And.intro rfl (And.intro (by decide) (h.1 c10)))))) (fun c10 => (mc_WP.run (mc_adjs _) 9 (And.intro ⟨rfl, (show ¬ (102 : Nat) = 0 by decide)⟩ (And.intro ⟨rfl, (show ¬ (102 : Nat) = 0 by decide)⟩ (And.intro (wl_ld rfl (h.2 c10).1) (And.intro (fun c11 => (mc_WP.run (mc_adjs _) 6 (And.intro ⟨rfl, (show ¬ (102 : Nat) = 0 by decide)⟩ (And.intro (wl_ld rfl ((h.2 c10).2.1 c11).1) (And.intro (fun c12 => (mc_WP.run (mc_adjs _) 7 (And.intro ⟨rfl, (show ¬ (102 : Nat) = 0 by decide)⟩ (And.intro (wl_ld rfl (((h.2 c10).2.1 c11).2.1 c12).1) (And.intro (wl_st rfl (((h.2 c10).2.1 c11).2.1 c12).2.1 (show 10 ≤ (102 : Nat) by decide)) (((h.2 c10).2.1 c11).2.1 c12).2.2))))) (fun c12 => (mc_WP.run (mc_adjs _) 2 (mc_WP.run (mc_adjs _) 3 (And.intro (wl_st rfl (((h.2 c10).2.1 c11).2.2 c12).1 (show 10 ≤ (102 : Nat) by decide)) (((h.2 c10).2.1 c11).2.2 c12).2))))))))) (fun c11 => (mc_WP.run (mc_adjs _) 3 (And.intro rfl (mc_WP.run (mc_adjs _) 3 (And.intro (wl_st rfl ((h.2 c10).2.2 c11).1 (show 10 ≤ (102 : Nat) by decide)) ((h.2 c10).2.2 c11).2))))))))))))))
-- 117 meanOf(I)I inl<=6
set_option maxRecDepth 20000 in
theorem bk_117_0 {x1 : Int32}
    (h : mc_WP (117, 4, [.ref 84, .int x1, .int (0 : Int32), .int (0 : Int32), .null, .null, .null], [], (I, J, rf_w r, sh_w N, n), (0, 0)) Q) :
    mc_WP (mc_en 117 [.ref 84, .int x1] (I, J, rf_w r, sh_w N, n)) Q := by
  exact (mc_WP.run (mc_adjs _) 4 h)
set_option maxRecDepth 20000 in
theorem bk_117_4 {x1 : Int32} {x2 : Int32} {x3 : Int32} {x4 : Value} {x5 : Value} {x6 : Value}
    (h : ((3 : Int32) ≤ x3 → (Q (.inl (some (.int x2))) (I, J, rf_w r, sh_w N, n))) ∧
        (¬ ((3 : Int32) ≤ x3) →
        (mc_WP (117, 18, [.ref 84, .int x1, .int x2, .int x3, .int (0 : Int32), .int (0 : Int32), .int (0 : Int32)], [], (I, J, rf_w r, sh_w N, n), (0, 0)) Q))) :
    mc_WP (117, 4, [.ref 84, .int x1, .int x2, .int x3, x4, x5, x6], [], (I, J, rf_w r, sh_w N, n), (0, 0)) Q := by
  exact (mc_WP.run (mc_adjs _) 3 (And.intro (fun c4 => (mc_WP.run (mc_adjs _) 2 (h.1 c4))) (fun c4 => (mc_WP.run (mc_adjs _) 6 (h.2 c4)))))
set_option maxRecDepth 20000 in
theorem bk_117_18 {x1 : Int32} {x2 : Int32} {x3 : Int32} {x4 : Int32} {x5 : Int32} {x6 : Int32}
    (h : ((I 84 28) ≤ x6 →
        (¬ x5 = 0 ∧ mc_WP (117, 4, [.ref 84, .int x1, .int ((x2 <<< ((8 : Int32) &&& 31)) ||| (x4 / x5)), .int (x3 + (1 : Int32)), .int x4, .int x5, .int x6], [], (I, J, rf_w r, sh_w N, n), (0, 0)) Q)) ∧
        (¬ ((I 84 28) ≤ x6) →
        (vp_in x6 64 ∧ (¬ (I 102 x6.toNatClampNeg) = x1 →
          (vp_in x6 64 ∧ (¬ (I 102 x6.toNatClampNeg) = x1 →
            (mc_WP (117, 18, [.ref 84, .int x1, .int x2, .int x3, .int x4, .int x5, .int (x6 + (1 : Int32))], [], (I, J, rf_w r, sh_w N, n), (0, 0)) Q)) ∧
            (¬ (¬ (I 102 x6.toNatClampNeg) = x1) →
            (vp_in x6 64 ∧ mc_WP (117, 18, [.ref 84, .int x1, .int x2, .int x3, .int x4, .int (x5 + (I 101 x6.toNatClampNeg)), .int (x6 + (1 : Int32))], [], (I, J, rf_w r, sh_w N, n), (0, 0)) Q)))) ∧
          (¬ (¬ (I 102 x6.toNatClampNeg) = x1) →
          (vp_in x6 64 ∧ vp_in x6 64 ∧ vp_in x6 64 ∧ (¬ (I 102 x6.toNatClampNeg) = x1 →
            (mc_WP (117, 18, [.ref 84, .int x1, .int x2, .int x3, .int (x4 + ((I 101 x6.toNatClampNeg) * (((I 100 x6.toNatClampNeg) >>> (((16 : Int32) - ((8 : Int32) * x3)) &&& 31)) &&& (255 : Int32)))), .int x5, .int (x6 + (1 : Int32))], [], (I, J, rf_w r, sh_w N, n), (0, 0)) Q)) ∧
            (¬ (¬ (I 102 x6.toNatClampNeg) = x1) →
            (vp_in x6 64 ∧ mc_WP (117, 18, [.ref 84, .int x1, .int x2, .int x3, .int (x4 + ((I 101 x6.toNatClampNeg) * (((I 100 x6.toNatClampNeg) >>> (((16 : Int32) - ((8 : Int32) * x3)) &&& 31)) &&& (255 : Int32)))), .int (x5 + (I 101 x6.toNatClampNeg)), .int (x6 + (1 : Int32))], [], (I, J, rf_w r, sh_w N, n), (0, 0)) Q))))))) :
    mc_WP (117, 18, [.ref 84, .int x1, .int x2, .int x3, .int x4, .int x5, .int x6], [], (I, J, rf_w r, sh_w N, n), (0, 0)) Q := by
  exact (mc_WP.run (mc_adjs _) 4 (And.intro rfl (And.intro (fun c15 => (mc_WP.run (mc_adjs _) 10 (And.intro (h.1 c15).1 (h.1 c15).2))) (fun c15 => (mc_WP.run (mc_adjs _) 6 (And.intro ⟨rfl, (show ¬ (102 : Nat) = 0 by decide)⟩ (And.intro (wl_ld rfl (h.2 c15).1) (And.intro (fun c16 => (mc_WP.run (mc_adjs _) 8 (And.intro ⟨rfl, (show ¬ (102 : Nat) = 0 by decide)⟩ (And.intro (wl_ld rfl ((h.2 c15).2.1 c16).1) (And.intro (fun c17 => (mc_WP.run (mc_adjs _) 4 (((h.2 c15).2.1 c16).2.1 c17))) (fun c17 => (mc_WP.run (mc_adjs _) 7 (And.intro ⟨rfl, (show ¬ (101 : Nat) = 0 by decide)⟩ (And.intro (wl_ld rfl (((h.2 c15).2.1 c16).2.2 c17).1) (mc_WP.run (mc_adjs _) 3 (((h.2 c15).2.1 c16).2.2 c17).2)))))))))) (fun c16 => (mc_WP.run (mc_adjs _) 11 (And.intro ⟨rfl, (show ¬ (101 : Nat) = 0 by decide)⟩ (And.intro (wl_ld rfl ((h.2 c15).2.2 c16).1) (And.intro ⟨rfl, (show ¬ (100 : Nat) = 0 by decide)⟩ (And.intro (wl_ld rfl ((h.2 c15).2.2 c16).2.1) (And.intro (by decide) (And.intro (by decide) (mc_inl (mc_WP.run (mc_adjs _) 10 (mc_WP.run (mc_adjs _) 3 (mc_WP.run (mc_adjs _) 7 (And.intro ⟨rfl, (show ¬ (102 : Nat) = 0 by decide)⟩ (And.intro (wl_ld rfl ((h.2 c15).2.2 c16).2.2.1) (And.intro (fun c18 => (mc_WP.run (mc_adjs _) 4 (((h.2 c15).2.2 c16).2.2.2.1 c18))) (fun c18 => (mc_WP.run (mc_adjs _) 7 (And.intro ⟨rfl, (show ¬ (101 : Nat) = 0 by decide)⟩ (And.intro (wl_ld rfl (((h.2 c15).2.2 c16).2.2.2.2 c18).1) (mc_WP.run (mc_adjs _) 3 (((h.2 c15).2.2 c16).2.2.2.2 c18).2))))))))))))))))))))))))))))
-- 118 nearest(III)I joins inl<=6
set_option maxRecDepth 20000 in
theorem bk_118_0 {x1 : Int32} {x2 : Int32} {x3 : Int32}
    (h : mc_WP (118, 10, [.ref 84, .int x1, .int x2, .int x3, .int (0 : Int32), .int (Int32.ofNat 200000), .int (0 : Int32), .null, .null, .null, .null], [], (I, J, rf_w r, sh_w N, n), (0, 0)) Q) :
    mc_WP (mc_en 118 [.ref 84, .int x1, .int x2, .int x3] (I, J, rf_w r, sh_w N, n)) Q := by
  exact (mc_WP.run (mc_adjs _) 6 h)
set_option maxRecDepth 20000 in
theorem bk_118_10 {x1 : Int32} {x2 : Int32} {x3 : Int32} {x4 : Int32} {x5 : Int32} {x6 : Int32} {x7 : Value} {x8 : Value} {x9 : Value} {x10 : Value}
    (h : ((I 84 32) ≤ x6 → (Q (.inl (some (.int x4))) (I, J, rf_w r, sh_w N, n))) ∧
        (¬ ((I 84 32) ≤ x6) →
        (vp_in x6 16 ∧ vp_in x6 16 ∧ vp_in x6 16 ∧ (x5 ≤ ((((x1 - (((I 103 x6.toNatClampNeg) >>> (((16 : Int32) - ((8 : Int32) * (0 : Int32))) &&& 31)) &&& (255 : Int32))) * (x1 - (((I 103 x6.toNatClampNeg) >>> (((16 : Int32) - ((8 : Int32) * (0 : Int32))) &&& 31)) &&& (255 : Int32)))) + ((x2 - (((I 103 x6.toNatClampNeg) >>> (((16 : Int32) - ((8 : Int32) * (1 : Int32))) &&& 31)) &&& (255 : Int32))) * (x2 - (((I 103 x6.toNatClampNeg) >>> (((16 : Int32) - ((8 : Int32) * (1 : Int32))) &&& 31)) &&& (255 : Int32))))) + ((x3 - (((I 103 x6.toNatClampNeg) >>> (((16 : Int32) - ((8 : Int32) * (2 : Int32))) &&& 31)) &&& (255 : Int32))) * (x3 - (((I 103 x6.toNatClampNeg) >>> (((16 : Int32) - ((8 : Int32) * (2 : Int32))) &&& 31)) &&& (255 : Int32))))) →
          (mc_WP (118, 97, [.ref 84, .int x1, .int x2, .int x3, .int x4, .int x5, .int x6, .int (x1 - (((I 103 x6.toNatClampNeg) >>> (((16 : Int32) - ((8 : Int32) * (0 : Int32))) &&& 31)) &&& (255 : Int32))), .int (x2 - (((I 103 x6.toNatClampNeg) >>> (((16 : Int32) - ((8 : Int32) * (1 : Int32))) &&& 31)) &&& (255 : Int32))), .int (x3 - (((I 103 x6.toNatClampNeg) >>> (((16 : Int32) - ((8 : Int32) * (2 : Int32))) &&& 31)) &&& (255 : Int32))), .int ((((x1 - (((I 103 x6.toNatClampNeg) >>> (((16 : Int32) - ((8 : Int32) * (0 : Int32))) &&& 31)) &&& (255 : Int32))) * (x1 - (((I 103 x6.toNatClampNeg) >>> (((16 : Int32) - ((8 : Int32) * (0 : Int32))) &&& 31)) &&& (255 : Int32)))) + ((x2 - (((I 103 x6.toNatClampNeg) >>> (((16 : Int32) - ((8 : Int32) * (1 : Int32))) &&& 31)) &&& (255 : Int32))) * (x2 - (((I 103 x6.toNatClampNeg) >>> (((16 : Int32) - ((8 : Int32) * (1 : Int32))) &&& 31)) &&& (255 : Int32))))) + ((x3 - (((I 103 x6.toNatClampNeg) >>> (((16 : Int32) - ((8 : Int32) * (2 : Int32))) &&& 31)) &&& (255 : Int32))) * (x3 - (((I 103 x6.toNatClampNeg) >>> (((16 : Int32) - ((8 : Int32) * (2 : Int32))) &&& 31)) &&& (255 : Int32)))))], [.int x4], (I, J, rf_w r, sh_w N, n), (0, 0)) Q)) ∧
          (¬ (x5 ≤ ((((x1 - (((I 103 x6.toNatClampNeg) >>> (((16 : Int32) - ((8 : Int32) * (0 : Int32))) &&& 31)) &&& (255 : Int32))) * (x1 - (((I 103 x6.toNatClampNeg) >>> (((16 : Int32) - ((8 : Int32) * (0 : Int32))) &&& 31)) &&& (255 : Int32)))) + ((x2 - (((I 103 x6.toNatClampNeg) >>> (((16 : Int32) - ((8 : Int32) * (1 : Int32))) &&& 31)) &&& (255 : Int32))) * (x2 - (((I 103 x6.toNatClampNeg) >>> (((16 : Int32) - ((8 : Int32) * (1 : Int32))) &&& 31)) &&& (255 : Int32))))) + ((x3 - (((I 103 x6.toNatClampNeg) >>> (((16 : Int32) - ((8 : Int32) * (2 : Int32))) &&& 31)) &&& (255 : Int32))) * (x3 - (((I 103 x6.toNatClampNeg) >>> (((16 : Int32) - ((8 : Int32) * (2 : Int32))) &&& 31)) &&& (255 : Int32)))))) →
          (mc_WP (118, 97, [.ref 84, .int x1, .int x2, .int x3, .int x4, .int x5, .int x6, .int (x1 - (((I 103 x6.toNatClampNeg) >>> (((16 : Int32) - ((8 : Int32) * (0 : Int32))) &&& 31)) &&& (255 : Int32))), .int (x2 - (((I 103 x6.toNatClampNeg) >>> (((16 : Int32) - ((8 : Int32) * (1 : Int32))) &&& 31)) &&& (255 : Int32))), .int (x3 - (((I 103 x6.toNatClampNeg) >>> (((16 : Int32) - ((8 : Int32) * (2 : Int32))) &&& 31)) &&& (255 : Int32))), .int ((((x1 - (((I 103 x6.toNatClampNeg) >>> (((16 : Int32) - ((8 : Int32) * (0 : Int32))) &&& 31)) &&& (255 : Int32))) * (x1 - (((I 103 x6.toNatClampNeg) >>> (((16 : Int32) - ((8 : Int32) * (0 : Int32))) &&& 31)) &&& (255 : Int32)))) + ((x2 - (((I 103 x6.toNatClampNeg) >>> (((16 : Int32) - ((8 : Int32) * (1 : Int32))) &&& 31)) &&& (255 : Int32))) * (x2 - (((I 103 x6.toNatClampNeg) >>> (((16 : Int32) - ((8 : Int32) * (1 : Int32))) &&& 31)) &&& (255 : Int32))))) + ((x3 - (((I 103 x6.toNatClampNeg) >>> (((16 : Int32) - ((8 : Int32) * (2 : Int32))) &&& 31)) &&& (255 : Int32))) * (x3 - (((I 103 x6.toNatClampNeg) >>> (((16 : Int32) - ((8 : Int32) * (2 : Int32))) &&& 31)) &&& (255 : Int32)))))], [.int x6], (I, J, rf_w r, sh_w N, n), (0, 0)) Q))))) :
    mc_WP (118, 10, [.ref 84, .int x1, .int x2, .int x3, .int x4, .int x5, .int x6, x7, x8, x9, x10], [], (I, J, rf_w r, sh_w N, n), (0, 0)) Q := by
  exact (mc_WP.run (mc_adjs _) 4 (And.intro rfl (And.intro (fun c12 => (mc_WP.run (mc_adjs _) 2 (h.1 c12))) (fun c12 => (mc_WP.run (mc_adjs _) 7 (And.intro ⟨rfl, (show ¬ (103 : Nat) = 0 by decide)⟩ (And.intro (wl_ld rfl (h.2 c12).1) (And.intro (by decide) (And.intro (by decide) (mc_inl (mc_WP.run (mc_adjs _) 10 (mc_WP.run (mc_adjs _) 9 (And.intro ⟨rfl, (show ¬ (103 : Nat) = 0 by decide)⟩ (And.intro (wl_ld rfl (h.2 c12).2.1) (And.intro (by decide) (And.intro (by decide) (mc_inl (mc_WP.run (mc_adjs _) 10 (mc_WP.run (mc_adjs _) 9 (And.intro ⟨rfl, (show ¬ (103 : Nat) = 0 by decide)⟩ (And.intro (wl_ld rfl (h.2 c12).2.2.1) (And.intro (by decide) (And.intro (by decide) (mc_inl (mc_WP.run (mc_adjs _) 10 (mc_WP.run (mc_adjs _) 17 (And.intro (fun c13 => (mc_WP.run (mc_adjs _) 1 ((h.2 c12).2.2.2.1 c13))) (fun c13 => (mc_WP.run (mc_adjs _) 2 ((h.2 c12).2.2.2.2 c13))))))))))))))))))))))))))))))
set_option maxRecDepth 20000 in
theorem bk_118_97 {x1 : Int32} {x2 : Int32} {x3 : Int32} {x4 : Int32} {x5 : Int32} {x6 : Int32} {x7 : Int32} {x8 : Int32} {x9 : Int32} {x10 : Int32} {y0 : Int32}
    (h : (x5 ≤ x10 →
        (mc_WP (118, 113, [.ref 84, .int x1, .int x2, .int x3, .int y0, .int x5, .int x6, .int x7, .int x8, .int x9, .int x10], [.int x5], (I, J, rf_w r, sh_w N, n), (0, 0)) Q)) ∧
        (¬ (x5 ≤ x10) →
        (mc_WP (118, 113, [.ref 84, .int x1, .int x2, .int x3, .int y0, .int x5, .int x6, .int x7, .int x8, .int x9, .int x10], [.int x10], (I, J, rf_w r, sh_w N, n), (0, 0)) Q))) :
    mc_WP (118, 97, [.ref 84, .int x1, .int x2, .int x3, .int x4, .int x5, .int x6, .int x7, .int x8, .int x9, .int x10], [.int y0], (I, J, rf_w r, sh_w N, n), (0, 0)) Q := by
  exact (mc_WP.run (mc_adjs _) 4 (And.intro (fun c4 => (mc_WP.run (mc_adjs _) 1 (h.1 c4))) (fun c4 => (mc_WP.run (mc_adjs _) 2 (h.2 c4)))))
set_option maxRecDepth 20000 in
theorem bk_118_113 {x1 : Int32} {x2 : Int32} {x3 : Int32} {x4 : Int32} {x5 : Int32} {x6 : Int32} {x7 : Int32} {x8 : Int32} {x9 : Int32} {x10 : Int32} {y0 : Int32}
    (h : mc_WP (118, 10, [.ref 84, .int x1, .int x2, .int x3, .int x4, .int y0, .int (x6 + (1 : Int32)), .int x7, .int x8, .int x9, .int x10], [], (I, J, rf_w r, sh_w N, n), (0, 0)) Q) :
    mc_WP (118, 113, [.ref 84, .int x1, .int x2, .int x3, .int x4, .int x5, .int x6, .int x7, .int x8, .int x9, .int x10], [.int y0], (I, J, rf_w r, sh_w N, n), (0, 0)) Q := by
  exact (mc_WP.run (mc_adjs _) 3 h)
-- 119 exact(I)I inl<=6
set_option maxRecDepth 20000 in
theorem bk_119_0 {x1 : Int32}
    (h : mc_WP (119, 2, [.ref 84, .int x1, .int (0 : Int32)], [], (I, J, rf_w r, sh_w N, n), (0, 0)) Q) :
    mc_WP (mc_en 119 [.ref 84, .int x1] (I, J, rf_w r, sh_w N, n)) Q := by
  exact (mc_WP.run (mc_adjs _) 2 h)
set_option maxRecDepth 20000 in
theorem bk_119_2 {x1 : Int32} {x2 : Int32}
    (h : ((I 84 32) ≤ x2 →
        (Q (.inl (some (.int (-1 : Int32)))) (I, J, rf_w r, sh_w N, n))) ∧
        (¬ ((I 84 32) ≤ x2) →
        (vp_in x2 16 ∧ (¬ (I 103 x2.toNatClampNeg) = x1 →
          (mc_WP (119, 2, [.ref 84, .int x1, .int (x2 + (1 : Int32))], [], (I, J, rf_w r, sh_w N, n), (0, 0)) Q)) ∧
          (¬ (¬ (I 103 x2.toNatClampNeg) = x1) → (Q (.inl (some (.int x2))) (I, J, rf_w r, sh_w N, n)))))) :
    mc_WP (119, 2, [.ref 84, .int x1, .int x2], [], (I, J, rf_w r, sh_w N, n), (0, 0)) Q := by
  exact (mc_WP.run (mc_adjs _) 4 (And.intro rfl (And.intro (fun c6 => (mc_WP.run (mc_adjs _) 2 (h.1 c6))) (fun c6 => (mc_WP.run (mc_adjs _) 6 (And.intro ⟨rfl, (show ¬ (103 : Nat) = 0 by decide)⟩ (And.intro (wl_ld rfl (h.2 c6).1) (And.intro (fun c7 => (mc_WP.run (mc_adjs _) 2 ((h.2 c6).2.1 c7))) (fun c7 => (mc_WP.run (mc_adjs _) 2 ((h.2 c6).2.2 c7)))))))))))
-- 120 bounded(I)I inl<=6
set_option maxRecDepth 20000 in
theorem bk_120_0 {x0 : Int32}
    (h : (0 ≤ x0 →
        ((x0 ≤ (255 : Int32) → (Q (.inl (some (.int x0))) (I, J, rf_w r, sh_w N, n))) ∧
          (¬ (x0 ≤ (255 : Int32)) →
          (Q (.inl (some (.int (255 : Int32)))) (I, J, rf_w r, sh_w N, n))))) ∧
        (¬ (0 ≤ x0) → (Q (.inl (some (.int (0 : Int32)))) (I, J, rf_w r, sh_w N, n)))) :
    mc_WP (mc_en 120 [.int x0] (I, J, rf_w r, sh_w N, n)) Q := by
  exact (mc_WP.run (mc_adjs _) 2 (And.intro (fun c8 => (mc_WP.run (mc_adjs _) 3 (And.intro (fun c9 => (mc_WP.run (mc_adjs _) 2 ((h.1 c8).1 c9))) (fun c9 => (mc_WP.run (mc_adjs _) 2 (mc_WP.run (mc_adjs _) 1 ((h.1 c8).2 c9))))))) (fun c8 => (mc_WP.run (mc_adjs _) 2 (mc_WP.run (mc_adjs _) 1 (h.2 c8))))))
end
