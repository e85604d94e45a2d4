/-! what the code does between its cut points (printed by blocks.py) -/
section
variable {I : Nat → Nat → Int32} {J : Nat → Nat → Int64} {r N n : Nat} {Q : mc_Q}
-- 169 gatherColours(II)V inl<=6
set_option maxRecDepth 20000 in
theorem bk_169_0 {x1 : Int32} {x2 : Int32}
    (h : mc_WP (169, 7, [.ref 76, .int x1, .int x2, .int (0 : Int32), .null], [], ((mc_up I 76 8 (0 : Int32)), J, rf_w r, sh_w N, n), (0, 0)) Q) :
    mc_WP (mc_en 169 [.ref 76, .int x1, .int x2] (I, J, rf_w r, sh_w N, n)) Q := by
  exact (mc_WP.run (mc_adjs _) 5 (And.intro rfl h))
set_option maxRecDepth 20000 in
theorem bk_169_7 {x1 : Int32} {x2 : Int32} {x3 : Int32} {x4 : Value}
    (h : (x2 ≤ x3 → (Q (.inl none) (I, J, rf_w r, sh_w N, n))) ∧
        (¬ (x2 ≤ x3) →
        (mc_WP (169, 15, [.ref 76, .int x1, .int x2, .int x3, .int (0 : Int32)], [], (I, J, rf_w r, sh_w N, n), (0, 0)) Q))) :
    mc_WP (169, 7, [.ref 76, .int x1, .int x2, .int x3, x4], [], (I, J, rf_w r, sh_w N, n), (0, 0)) Q := by
  exact (mc_WP.run (mc_adjs _) 3 (And.intro (fun c4 => (mc_WP.run (mc_adjs _) 1 (h.1 c4))) (fun c4 => (mc_WP.run (mc_adjs _) 2 (h.2 c4)))))
set_option maxRecDepth 20000 in
theorem bk_169_15 {x1 : Int32} {x2 : Int32} {x3 : Int32} {x4 : Int32}
    (h : (x1 ≤ x4 →
        (mc_WP (169, 7, [.ref 76, .int x1, .int x2, .int (x3 + (1 : Int32)), .int x4], [], (I, J, rf_w r, sh_w N, n), (0, 0)) Q)) ∧
        (¬ (x1 ≤ x4) →
        (vp_in ((x3 * (8 : Int32)) + x4) 64 ∧ ∃ R : mc_Q, mc_WP (mc_en 170 [.ref 76, .int (I 75 ((x3 * (8 : Int32)) + x4).toNatClampNeg)] (I, J, rf_w r, sh_w N, n)) R ∧ (∀ v t, R (.inl v) t → mc_WP (169, 36, [.ref 76, .int x1, .int x2, .int x3, .int x4], v.toList ++ [], t, (0, 0)) Q) ∧ (∀ k t, R (.inr k) t → Q (.inr k) t)))) :
    mc_WP (169, 15, [.ref 76, .int x1, .int x2, .int x3, .int x4], [], (I, J, rf_w r, sh_w N, n), (0, 0)) Q := by
  exact (mc_WP.run (mc_adjs _) 3 (And.intro (fun c6 => (mc_WP.run (mc_adjs _) 2 (h.1 c6))) (fun c6 => (mc_WP.run (mc_adjs _) 6 (And.intro ⟨rfl, (show ¬ (75 : Nat) = 0 by decide)⟩ (And.intro (by decide) (And.intro (by decide) (mc_inl (mc_WP.run (mc_adjs _) 6 (mc_WP.run (mc_adjs _) 2 (And.intro (wl_ld rfl (h.2 c6).1) (And.intro rfl (And.intro (by decide) (And.intro (by decide) (h.2 c6).2))))))))))))))
set_option maxRecDepth 20000 in
theorem bk_169_36 {x1 : Int32} {x2 : Int32} {x3 : Int32} {x4 : Int32}
    (h : mc_WP (169, 15, [.ref 76, .int x1, .int x2, .int x3, .int (x4 + (1 : Int32))], [], (I, J, rf_w r, sh_w N, n), (0, 0)) Q) :
    mc_WP (169, 36, [.ref 76, .int x1, .int x2, .int x3, .int x4], [], (I, J, rf_w r, sh_w N, n), (0, 0)) Q := by
  exact (mc_WP.run (mc_adjs _) 2 h)
-- 170 countColour(I)V inl<=6
set_option maxRecDepth 20000 in
theorem bk_170_0 {x1 : Int32}
    (h : mc_WP (170, 2, [.ref 76, .int x1, .int (0 : Int32)], [], (I, J, rf_w r, sh_w N, n), (0, 0)) Q) :
    mc_WP (mc_en 170 [.ref 76, .int x1] (I, J, rf_w r, sh_w N, n)) Q := by
  exact (mc_WP.run (mc_adjs _) 2 h)
set_option maxRecDepth 20000 in
theorem bk_170_2 {x1 : Int32} {x2 : Int32}
    (h : ((I 76 8) ≤ x2 →
        (vp_in (I 76 8) 64 ∧ vp_in (I 76 8) 64 ∧ Q (.inl none) ((mc_up (mc_up (mc_up I 77 (I 76 8).toNatClampNeg x1) 78 (I 76 8).toNatClampNeg (1 : Int32)) 76 8 ((I 76 8) + (1 : Int32))), J, rf_w r, sh_w N, n))) ∧
        (¬ ((I 76 8) ≤ x2) →
        (vp_in x2 64 ∧ (¬ (I 77 x2.toNatClampNeg) = x1 →
          (mc_WP (170, 2, [.ref 76, .int x1, .int (x2 + (1 : Int32))], [], (I, J, rf_w r, sh_w N, n), (0, 0)) Q)) ∧
          (¬ (¬ (I 77 x2.toNatClampNeg) = x1) →
          (vp_in x2 64 ∧ vp_in x2 64 ∧ Q (.inl none) ((mc_up I 78 x2.toNatClampNeg ((I 78 x2.toNatClampNeg) + (1 : Int32))), J, rf_w r, sh_w N, n)))))) :
    mc_WP (170, 2, [.ref 76, .int x1, .int x2], [], (I, J, rf_w r, sh_w N, n), (0, 0)) Q := by
  exact (mc_WP.run (mc_adjs _) 4 (And.intro rfl (And.intro (fun c6 => (mc_WP.run (mc_adjs _) 19 (And.intro ⟨rfl, (show ¬ (77 : Nat) = 0 by decide)⟩ (And.intro rfl (And.intro (wl_st rfl (h.1 c6).1 (show 10 ≤ (77 : Nat) by decide)) (And.intro ⟨rfl, (show ¬ (78 : Nat) = 0 by decide)⟩ (And.intro rfl (And.intro (wl_st rfl (h.1 c6).2.1 (show 10 ≤ (78 : Nat) by decide)) (And.intro rfl (And.intro rfl (h.1 c6).2.2)))))))))) (fun c6 => (mc_WP.run (mc_adjs _) 6 (And.intro ⟨rfl, (show ¬ (77 : Nat) = 0 by decide)⟩ (And.intro (wl_ld rfl (h.2 c6).1) (And.intro (fun c7 => (mc_WP.run (mc_adjs _) 2 ((h.2 c6).2.1 c7))) (fun c7 => (mc_WP.run (mc_adjs _) 9 (And.intro ⟨rfl, (show ¬ (78 : Nat) = 0 by decide)⟩ (And.intro (wl_ld rfl ((h.2 c6).2.2 c7).1) (And.intro (wl_st rfl ((h.2 c6).2.2 c7).2.1 (show 10 ≤ (78 : Nat) by decide)) ((h.2 c6).2.2 c7).2.2)))))))))))))
-- 171 partBoxes(I)V inl<=6
set_option maxRecDepth 20000 in
theorem bk_171_0 {x1 : Int32}
    (h : mc_WP (171, 24, [.ref 76, .int x1, .int (1 : Int32), .null], [], ((mc_up (mc_up (mc_up I 76 9 (1 : Int32)) 79 0 (0 : Int32)) 80 0 (I 76 8)), J, rf_w r, sh_w N, n), (0, 0)) Q) :
    mc_WP (mc_en 171 [.ref 76, .int x1] (I, J, rf_w r, sh_w N, n)) Q := by
  exact (mc_WP.run (mc_adjs _) 16 (And.intro rfl (And.intro ⟨rfl, (show ¬ (79 : Nat) = 0 by decide)⟩ (And.intro (wl_st rfl (show vp_in (0 : Int32) 16 by unfold vp_in; decide) (show 10 ≤ (79 : Nat) by decide)) (And.intro ⟨rfl, (show ¬ (80 : Nat) = 0 by decide)⟩ (And.intro rfl (And.intro (wl_st rfl (show vp_in (0 : Int32) 16 by unfold vp_in; decide) (show 10 ≤ (80 : Nat) by decide)) h)))))))
set_option maxRecDepth 20000 in
theorem bk_171_24 {x1 : Int32} {x2 : Int32} {x3 : Value}
    (h : (x1 ≤ x2 → (Q (.inl none) (I, J, rf_w r, sh_w N, n))) ∧
        (¬ (x1 ≤ x2) →
        (∃ R : mc_Q, mc_WP (mc_en 172 [.ref 76] (I, J, rf_w r, sh_w N, n)) R ∧ (∀ v t, R (.inl v) t → mc_WP (171, 33, [.ref 76, .int x1, .int x2, x3], v.toList ++ [], t, (0, 0)) Q) ∧ (∀ k t, R (.inr k) t → Q (.inr k) t)))) :
    mc_WP (171, 24, [.ref 76, .int x1, .int x2, x3], [], (I, J, rf_w r, sh_w N, n), (0, 0)) Q := by
  exact (mc_WP.run (mc_adjs _) 3 (And.intro (fun c4 => (mc_WP.run (mc_adjs _) 1 (h.1 c4))) (fun c4 => (mc_WP.run (mc_adjs _) 2 (And.intro rfl (And.intro (by decide) (And.intro (by decide) (h.2 c4))))))))
set_option maxRecDepth 20000 in
theorem bk_171_33 {x1 : Int32} {x2 : Int32} {x3 : Value} {y0 : Int32}
    (h : vp_in y0 16 ∧ vp_in y0 16 ∧ ((2 : Int32) ≤ ((I 80 y0.toNatClampNeg) - (I 79 y0.toNatClampNeg)) →
        (∃ R : mc_Q, mc_WP (mc_en 175 [.ref 76, .int y0] (I, J, rf_w r, sh_w N, n)) R ∧ (∀ v t, R (.inl v) t → mc_WP (171, 57, [.ref 76, .int x1, .int x2, .int y0], v.toList ++ [], t, (0, 0)) Q) ∧ (∀ k t, R (.inr k) t → Q (.inr k) t))) ∧
        (¬ ((2 : Int32) ≤ ((I 80 y0.toNatClampNeg) - (I 79 y0.toNatClampNeg))) → (Q (.inl none) (I, J, rf_w r, sh_w N, n)))) :
    mc_WP (171, 33, [.ref 76, .int x1, .int x2, x3], [.int y0], (I, J, rf_w r, sh_w N, n), (0, 0)) Q := by
  exact (mc_WP.run (mc_adjs _) 12 (And.intro ⟨rfl, (show ¬ (80 : Nat) = 0 by decide)⟩ (And.intro (wl_ld rfl h.1) (And.intro ⟨rfl, (show ¬ (79 : Nat) = 0 by decide)⟩ (And.intro (wl_ld rfl h.2.1) (And.intro (fun c4 => (mc_WP.run (mc_adjs _) 3 (And.intro rfl (And.intro (by decide) (And.intro (by decide) (h.2.2.1 c4)))))) (fun c4 => (mc_WP.run (mc_adjs _) 1 (h.2.2.2 c4)))))))))
set_option maxRecDepth 20000 in
theorem bk_171_57 {x1 : Int32} {x2 : Int32} {x3 : Int32}
    (h : mc_WP (171, 24, [.ref 76, .int x1, .int (x2 + (1 : Int32)), .int x3], [], (I, J, rf_w r, sh_w N, n), (0, 0)) Q) :
    mc_WP (171, 57, [.ref 76, .int x1, .int x2, .int x3], [], (I, J, rf_w r, sh_w N, n), (0, 0)) Q := by
  exact (mc_WP.run (mc_adjs _) 2 h)
-- 172 widestBox()I inl<=6
set_option maxRecDepth 20000 in
theorem bk_172_0
    (h : mc_WP (172, 4, [.ref 76, .int (0 : Int32), .int (1 : Int32)], [], (I, J, rf_w r, sh_w N, n), (0, 0)) Q) :
    mc_WP (mc_en 172 [.ref 76] (I, J, rf_w r, sh_w N, n)) Q := by
  exact (mc_WP.run (mc_adjs _) 4 h)
set_option maxRecDepth 20000 in
theorem bk_172_4 {x1 : Int32} {x2 : Int32}
    (h : ((I 76 9) ≤ x2 → (Q (.inl (some (.int x1))) (I, J, rf_w r, sh_w N, n))) ∧
        (¬ ((I 76 9) ≤ x2) →
        (∃ R : mc_Q, mc_WP (mc_en 173 [.ref 76, .int x2] (I, J, rf_w r, sh_w N, n)) R ∧ (∀ v t, R (.inl v) t → mc_WP (172, 19, [.ref 76, .int x1, .int x2], v.toList ++ [.int x2, .ref 76], t, (0, 0)) Q) ∧ (∀ k t, R (.inr k) t → Q (.inr k) t)))) :
    mc_WP (172, 4, [.ref 76, .int x1, .int x2], [], (I, J, rf_w r, sh_w N, n), (0, 0)) Q := by
  exact (mc_WP.run (mc_adjs _) 4 (And.intro rfl (And.intro (fun c4 => (mc_WP.run (mc_adjs _) 2 (h.1 c4))) (fun c4 => (mc_WP.run (mc_adjs _) 5 (And.intro rfl (And.intro (by decide) (And.intro (by decide) (h.2 c4)))))))))
set_option maxRecDepth 20000 in
theorem bk_172_19 {x1 : Int32} {x2 : Int32} {y1 : Int32} {y2 : Int32}
    (h : ∃ R : mc_Q, mc_WP (mc_en 174 [.ref 76, .int y1, .int y2] (I, J, rf_w r, sh_w N, n)) R ∧ (∀ v t, R (.inl v) t → mc_WP (172, 22, [.ref 76, .int x1, .int x2], v.toList ++ [], t, (0, 0)) Q) ∧ (∀ k t, R (.inr k) t → Q (.inr k) t)) :
    mc_WP (172, 19, [.ref 76, .int x1, .int x2], [.int y2, .int y1, .ref 76], (I, J, rf_w r, sh_w N, n), (0, 0)) Q := by
  exact (mc_WP.run (mc_adjs _) 1 (And.intro rfl (And.intro (by decide) (And.intro (by decide) h))))
set_option maxRecDepth 20000 in
theorem bk_172_22 {x1 : Int32} {x2 : Int32} {y0 : Int32}
    (h : ∃ R : mc_Q, mc_WP (mc_en 173 [.ref 76, .int x1] (I, J, rf_w r, sh_w N, n)) R ∧ (∀ v t, R (.inl v) t → mc_WP (172, 29, [.ref 76, .int x1, .int x2], v.toList ++ [.int x1, .ref 76, .int y0], t, (0, 0)) Q) ∧ (∀ k t, R (.inr k) t → Q (.inr k) t)) :
    mc_WP (172, 22, [.ref 76, .int x1, .int x2], [.int y0], (I, J, rf_w r, sh_w N, n), (0, 0)) Q := by
  exact (mc_WP.run (mc_adjs _) 5 (And.intro rfl (And.intro (by decide) (And.intro (by decide) h))))
set_option maxRecDepth 20000 in
theorem bk_172_29 {x1 : Int32} {x2 : Int32} {y0 : Int32} {y2 : Int32} {y3 : Int32}
    (h : ∃ R : mc_Q, mc_WP (mc_en 174 [.ref 76, .int y2, .int y3] (I, J, rf_w r, sh_w N, n)) R ∧ (∀ v t, R (.inl v) t → mc_WP (172, 32, [.ref 76, .int x1, .int x2], v.toList ++ [.int y0], t, (0, 0)) Q) ∧ (∀ k t, R (.inr k) t → Q (.inr k) t)) :
    mc_WP (172, 29, [.ref 76, .int x1, .int x2], [.int y3, .int y2, .ref 76, .int y0], (I, J, rf_w r, sh_w N, n), (0, 0)) Q := by
  exact (mc_WP.run (mc_adjs _) 1 (And.intro rfl (And.intro (by decide) (And.intro (by decide) h))))
set_option maxRecDepth 20000 in
theorem bk_172_32 {x1 : Int32} {x2 : Int32} {y0 : Int32} {y1 : Int32}
    (h : (y0 ≤ y1 →
        (mc_WP (172, 4, [.ref 76, .int x1, .int (x2 + (1 : Int32))], [], (I, J, rf_w r, sh_w N, n), (0, 0)) Q)) ∧
        (¬ (y0 ≤ y1) →
        (mc_WP (172, 4, [.ref 76, .int x2, .int (x2 + (1 : Int32))], [], (I, J, rf_w r, sh_w N, n), (0, 0)) Q))) :
    mc_WP (172, 32, [.ref 76, .int x1, .int x2], [.int y1, .int y0], (I, J, rf_w r, sh_w N, n), (0, 0)) Q := by
  exact (mc_WP.run (mc_adjs _) 1 (And.intro (fun c4 => (mc_WP.run (mc_adjs _) 2 (h.1 c4))) (fun c4 => (mc_WP.run (mc_adjs _) 4 (h.2 c4)))))
-- 173 widestPart(I)I inl<=6
set_option maxRecDepth 20000 in
theorem bk_173_0 {x1 : Int32}
    (h : mc_WP (173, 4, [.ref 76, .int x1, .int (0 : Int32), .int (1 : Int32)], [], (I, J, rf_w r, sh_w N, n), (0, 0)) Q) :
    mc_WP (mc_en 173 [.ref 76, .int x1] (I, J, rf_w r, sh_w N, n)) Q := by
  exact (mc_WP.run (mc_adjs _) 4 h)
set_option maxRecDepth 20000 in
theorem bk_173_4 {x1 : Int32} {x2 : Int32} {x3 : Int32}
    (h : ((3 : Int32) ≤ x3 → (Q (.inl (some (.int x2))) (I, J, rf_w r, sh_w N, n))) ∧
        (¬ ((3 : Int32) ≤ x3) →
        (∃ R : mc_Q, mc_WP (mc_en 174 [.ref 76, .int x1, .int x3] (I, J, rf_w r, sh_w N, n)) R ∧ (∀ v t, R (.inl v) t → mc_WP (173, 15, [.ref 76, .int x1, .int x2, .int x3], v.toList ++ [], t, (0, 0)) Q) ∧ (∀ k t, R (.inr k) t → Q (.inr k) t)))) :
    mc_WP (173, 4, [.ref 76, .int x1, .int x2, .int x3], [], (I, J, rf_w r, sh_w N, n), (0, 0)) Q := by
  exact (mc_WP.run (mc_adjs _) 3 (And.intro (fun c4 => (mc_WP.run (mc_adjs _) 2 (h.1 c4))) (fun c4 => (mc_WP.run (mc_adjs _) 4 (And.intro rfl (And.intro (by decide) (And.intro (by decide) (h.2 c4))))))))
set_option maxRecDepth 20000 in
theorem bk_173_15 {x1 : Int32} {x2 : Int32} {x3 : Int32} {y0 : Int32}
    (h : ∃ R : mc_Q, mc_WP (mc_en 174 [.ref 76, .int x1, .int x2] (I, J, rf_w r, sh_w N, n)) R ∧ (∀ v t, R (.inl v) t → mc_WP (173, 21, [.ref 76, .int x1, .int x2, .int x3], v.toList ++ [.int y0], t, (0, 0)) Q) ∧ (∀ k t, R (.inr k) t → Q (.inr k) t)) :
    mc_WP (173, 15, [.ref 76, .int x1, .int x2, .int x3], [.int y0], (I, J, rf_w r, sh_w N, n), (0, 0)) Q := by
  exact (mc_WP.run (mc_adjs _) 4 (And.intro rfl (And.intro (by decide) (And.intro (by decide) h))))
set_option maxRecDepth 20000 in
theorem bk_173_21 {x1 : Int32} {x2 : Int32} {x3 : Int32} {y0 : Int32} {y1 : Int32}
    (h : (y0 ≤ y1 →
        (mc_WP (173, 4, [.ref 76, .int x1, .int x2, .int (x3 + (1 : Int32))], [], (I, J, rf_w r, sh_w N, n), (0, 0)) Q)) ∧
        (¬ (y0 ≤ y1) →
        (mc_WP (173, 4, [.ref 76, .int x1, .int x3, .int (x3 + (1 : Int32))], [], (I, J, rf_w r, sh_w N, n), (0, 0)) Q))) :
    mc_WP (173, 21, [.ref 76, .int x1, .int x2, .int x3], [.int y1, .int y0], (I, J, rf_w r, sh_w N, n), (0, 0)) Q := by
  exact (mc_WP.run (mc_adjs _) 1 (And.intro (fun c4 => (mc_WP.run (mc_adjs _) 2 (h.1 c4))) (fun c4 => (mc_WP.run (mc_adjs _) 4 (h.2 c4)))))
-- 174 spreadOf(II)I inl<=6
set_option maxRecDepth 20000 in
theorem bk_174_0 {x1 : Int32} {x2 : Int32}
    (h : vp_in x1 16 ∧ mc_WP (174, 15, [.ref 76, .int x1, .int x2, .int (255 : Int32), .int (0 : Int32), .int (I 79 x1.toNatClampNeg), .null], [], (I, J, rf_w r, sh_w N, n), (0, 0)) Q) :
    mc_WP (mc_en 174 [.ref 76, .int x1, .int x2] (I, J, rf_w r, sh_w N, n)) Q := by
  exact (mc_WP.run (mc_adjs _) 9 (And.intro ⟨rfl, (show ¬ (79 : Nat) = 0 by decide)⟩ (And.intro (wl_ld rfl h.1) h.2)))
set_option maxRecDepth 20000 in
theorem bk_174_15 {x1 : Int32} {x2 : Int32} {x3 : Int32} {x4 : Int32} {x5 : Int32} {x6 : Value}
    (h : vp_in x1 16 ∧ ((I 80 x1.toNatClampNeg) ≤ x5 → (Q (.inl (some (.int (x4 - x3)))) (I, J, rf_w r, sh_w N, n))) ∧
        (¬ ((I 80 x1.toNatClampNeg) ≤ x5) →
        (vp_in x5 64 ∧ mc_WP (174, 15, [.ref 76, .int x1, .int x2, .int (if (((I 77 x5.toNatClampNeg) >>> (((8 : Int32) * ((2 : Int32) - x2)) &&& 31)) &&& (255 : Int32)) < x3 then (((I 77 x5.toNatClampNeg) >>> (((8 : Int32) * ((2 : Int32) - x2)) &&& 31)) &&& (255 : Int32)) else x3), .int (if x4 < (((I 77 x5.toNatClampNeg) >>> (((8 : Int32) * ((2 : Int32) - x2)) &&& 31)) &&& (255 : Int32)) then (((I 77 x5.toNatClampNeg) >>> (((8 : Int32) * ((2 : Int32) - x2)) &&& 31)) &&& (255 : Int32)) else x4), .int (x5 + (1 : Int32)), .int (((I 77 x5.toNatClampNeg) >>> (((8 : Int32) * ((2 : Int32) - x2)) &&& 31)) &&& (255 : Int32))], [], (I, J, rf_w r, sh_w N, n), (0, 0)) Q))) :
    mc_WP (174, 15, [.ref 76, .int x1, .int x2, .int x3, .int x4, .int x5, x6], [], (I, J, rf_w r, sh_w N, n), (0, 0)) Q := by
  exact (mc_WP.run (mc_adjs _) 6 (And.intro ⟨rfl, (show ¬ (80 : Nat) = 0 by decide)⟩ (And.intro (wl_ld rfl h.1) (And.intro (fun c6 => (mc_WP.run (mc_adjs _) 4 (h.2.1 c6))) (fun c6 => (mc_WP.run (mc_adjs _) 6 (And.intro ⟨rfl, (show ¬ (77 : Nat) = 0 by decide)⟩ (And.intro (wl_ld rfl (h.2.2 c6).1) (And.intro (by decide) (And.intro (by decide) (mc_inl (mc_WP.run (mc_adjs _) 10 (mc_WP.run (mc_adjs _) 11 (h.2.2 c6).2)))))))))))))
-- 175 partBox(I)V inl<=6
set_option maxRecDepth 20000 in
theorem bk_175_0 {x1 : Int32}
    (h : ∃ R : mc_Q, mc_WP (mc_en 173 [.ref 76, .int x1] (I, J, rf_w r, sh_w N, n)) R ∧ (∀ v t, R (.inl v) t → mc_WP (175, 7, [.ref 76, .int x1, .null], v.toList ++ [.int x1, .ref 76], t, (0, 0)) Q) ∧ (∀ k t, R (.inr k) t → Q (.inr k) t)) :
    mc_WP (mc_en 175 [.ref 76, .int x1] (I, J, rf_w r, sh_w N, n)) Q := by
  exact (mc_WP.run (mc_adjs _) 5 (And.intro rfl (And.intro (by decide) (And.intro (by decide) h))))
set_option maxRecDepth 20000 in
theorem bk_175_7 {x1 : Int32} {y1 : Int32} {y2 : Int32}
    (h : ∃ R : mc_Q, mc_WP (mc_en 176 [.ref 76, .int y1, .int y2] (I, J, rf_w r, sh_w N, n)) R ∧ (∀ v t, R (.inl v) t → mc_WP (175, 10, [.ref 76, .int x1, .null], v.toList ++ [], t, (0, 0)) Q) ∧ (∀ k t, R (.inr k) t → Q (.inr k) t)) :
    mc_WP (175, 7, [.ref 76, .int x1, .null], [.int y2, .int y1, .ref 76], (I, J, rf_w r, sh_w N, n), (0, 0)) Q := by
  exact (mc_WP.run (mc_adjs _) 1 (And.intro rfl (And.intro (by decide) (And.intro (by decide) h))))
set_option maxRecDepth 20000 in
theorem bk_175_10 {x1 : Int32}
    (h : ∃ R : mc_Q, mc_WP (mc_en 179 [.ref 76, .int x1] (I, J, rf_w r, sh_w N, n)) R ∧ (∀ v t, R (.inl v) t → mc_WP (175, 15, [.ref 76, .int x1, .null], v.toList ++ [], t, (0, 0)) Q) ∧ (∀ k t, R (.inr k) t → Q (.inr k) t)) :
    mc_WP (175, 10, [.ref 76, .int x1, .null], [], (I, J, rf_w r, sh_w N, n), (0, 0)) Q := by
  exact (mc_WP.run (mc_adjs _) 3 (And.intro rfl (And.intro (by decide) (And.intro (by decide) h))))
set_option maxRecDepth 20000 in
theorem bk_175_15 {x1 : Int32} {y0 : Int32}
    (h : vp_in (I 76 9) 16 ∧ vp_in x1 16 ∧ vp_in (I 76 9) 16 ∧ vp_in x1 16 ∧ Q (.inl none) ((mc_up (mc_up (mc_up (mc_up I 79 (I 76 9).toNatClampNeg y0) 80 (I 76 9).toNatClampNeg (I 80 x1.toNatClampNeg)) 80 x1.toNatClampNeg y0) 76 9 ((I 76 9) + (1 : Int32))), J, rf_w r, sh_w N, n)) :
    mc_WP (175, 15, [.ref 76, .int x1, .null], [.int y0], (I, J, rf_w r, sh_w N, n), (0, 0)) Q := by
  exact (mc_WP.run (mc_adjs _) 28 (And.intro ⟨rfl, (show ¬ (79 : Nat) = 0 by decide)⟩ (And.intro rfl (And.intro (wl_st rfl h.1 (show 10 ≤ (79 : Nat) by decide)) (And.intro ⟨rfl, (show ¬ (80 : Nat) = 0 by decide)⟩ (And.intro rfl (And.intro ⟨rfl, (show ¬ (80 : Nat) = 0 by decide)⟩ (And.intro (wl_ld rfl h.2.1) (And.intro (wl_st rfl h.2.2.1 (show 10 ≤ (80 : Nat) by decide)) (And.intro ⟨rfl, (show ¬ (80 : Nat) = 0 by decide)⟩ (And.intro (wl_st rfl h.2.2.2.1 (show 10 ≤ (80 : Nat) by decide)) (And.intro rfl (And.intro rfl h.2.2.2.2)))))))))))))
-- 176 sortBox(II)V inl<=0
set_option maxRecDepth 20000 in
theorem bk_176_0 {x1 : Int32} {x2 : Int32}
    (h : vp_in x1 16 ∧ mc_WP (176, 9, [.ref 76, .int x1, .int x2, .int ((I 79 x1.toNatClampNeg) + (1 : Int32)), .null], [], (I, J, rf_w r, sh_w N, n), (0, 0)) Q) :
    mc_WP (mc_en 176 [.ref 76, .int x1, .int x2] (I, J, rf_w r, sh_w N, n)) Q := by
  exact (mc_WP.run (mc_adjs _) 7 (And.intro ⟨rfl, (show ¬ (79 : Nat) = 0 by decide)⟩ (And.intro (wl_ld rfl h.1) h.2)))
set_option maxRecDepth 20000 in
theorem bk_176_9 {x1 : Int32} {x2 : Int32} {x3 : Int32} {x4 : Value}
    (h : vp_in x1 16 ∧ ((I 80 x1.toNatClampNeg) ≤ x3 → (Q (.inl none) (I, J, rf_w r, sh_w N, n))) ∧
        (¬ ((I 80 x1.toNatClampNeg) ≤ x3) →
        (mc_WP (176, 22, [.ref 76, .int x1, .int x2, .int x3, .int x3], [], (I, J, rf_w r, sh_w N, n), (0, 0)) Q))) :
    mc_WP (176, 9, [.ref 76, .int x1, .int x2, .int x3, x4], [], (I, J, rf_w r, sh_w N, n), (0, 0)) Q := by
  exact (mc_WP.run (mc_adjs _) 6 (And.intro ⟨rfl, (show ¬ (80 : Nat) = 0 by decide)⟩ (And.intro (wl_ld rfl h.1) (And.intro (fun c4 => (mc_WP.run (mc_adjs _) 1 (h.2.1 c4))) (fun c4 => (mc_WP.run (mc_adjs _) 2 (h.2.2 c4)))))))
set_option maxRecDepth 20000 in
theorem bk_176_22 {x1 : Int32} {x2 : Int32} {x3 : Int32} {x4 : Int32}
    (h : vp_in x1 16 ∧ (x4 ≤ (I 79 x1.toNatClampNeg) →
        (mc_WP (176, 9, [.ref 76, .int x1, .int x2, .int (x3 + (1 : Int32)), .int x4], [], (I, J, rf_w r, sh_w N, n), (0, 0)) Q)) ∧
        (¬ (x4 ≤ (I 79 x1.toNatClampNeg)) →
        (∃ R : mc_Q, mc_WP (mc_en 177 [.ref 76, .int x4, .int (x4 - (1 : Int32)), .int x2] (I, J, rf_w r, sh_w N, n)) R ∧ (∀ v t, R (.inl v) t → mc_WP (176, 44, [.ref 76, .int x1, .int x2, .int x3, .int x4], v.toList ++ [], t, (0, 0)) Q) ∧ (∀ k t, R (.inr k) t → Q (.inr k) t)))) :
    mc_WP (176, 22, [.ref 76, .int x1, .int x2, .int x3, .int x4], [], (I, J, rf_w r, sh_w N, n), (0, 0)) Q := by
  exact (mc_WP.run (mc_adjs _) 6 (And.intro ⟨rfl, (show ¬ (79 : Nat) = 0 by decide)⟩ (And.intro (wl_ld rfl h.1) (And.intro (fun c4 => (mc_WP.run (mc_adjs _) 2 (h.2.1 c4))) (fun c4 => (mc_WP.run (mc_adjs _) 7 (And.intro rfl (And.intro (by decide) (And.intro (by decide) (h.2.2 c4))))))))))
set_option maxRecDepth 20000 in
theorem bk_176_44 {x1 : Int32} {x2 : Int32} {x3 : Int32} {x4 : Int32} {y0 : Int32}
    (h : (y0 = 0 →
        (mc_WP (176, 9, [.ref 76, .int x1, .int x2, .int (x3 + (1 : Int32)), .int x4], [], (I, J, rf_w r, sh_w N, n), (0, 0)) Q)) ∧
        (¬ (y0 = 0) →
        (∃ R : mc_Q, mc_WP (mc_en 178 [.ref 76, .int x4, .int (x4 - (1 : Int32))] (I, J, rf_w r, sh_w N, n)) R ∧ (∀ v t, R (.inl v) t → mc_WP (176, 57, [.ref 76, .int x1, .int x2, .int x3, .int x4], v.toList ++ [], t, (0, 0)) Q) ∧ (∀ k t, R (.inr k) t → Q (.inr k) t)))) :
    mc_WP (176, 44, [.ref 76, .int x1, .int x2, .int x3, .int x4], [.int y0], (I, J, rf_w r, sh_w N, n), (0, 0)) Q := by
  exact (mc_WP.run (mc_adjs _) 1 (And.intro (fun c4 => (mc_WP.run (mc_adjs _) 2 (h.1 c4))) (fun c4 => (mc_WP.run (mc_adjs _) 6 (And.intro rfl (And.intro (by decide) (And.intro (by decide) (h.2 c4))))))))
set_option maxRecDepth 20000 in
theorem bk_176_57 {x1 : Int32} {x2 : Int32} {x3 : Int32} {x4 : Int32}
    (h : mc_WP (176, 22, [.ref 76, .int x1, .int x2, .int x3, .int (x4 + (-1 : Int32))], [], (I, J, rf_w r, sh_w N, n), (0, 0)) Q) :
    mc_WP (176, 57, [.ref 76, .int x1, .int x2, .int x3, .int x4], [], (I, J, rf_w r, sh_w N, n), (0, 0)) Q := by
  exact (mc_WP.run (mc_adjs _) 2 h)
-- 177 standsBefore(III)Z inl<=0
set_option maxRecDepth 20000 in
theorem bk_177_0 {x1 : Int32} {x2 : Int32} {x3 : Int32}
    (h : vp_in x1 64 ∧ ∃ R : mc_Q, mc_WP (mc_en 54 [.int (I 77 x1.toNatClampNeg), .int x3] (I, J, rf_w r, sh_w N, n)) R ∧ (∀ v t, R (.inl v) t → mc_WP (177, 10, [.ref 76, .int x1, .int x2, .int x3, .null, .null], v.toList ++ [], t, (0, 0)) Q) ∧ (∀ k t, R (.inr k) t → Q (.inr k) t)) :
    mc_WP (mc_en 177 [.ref 76, .int x1, .int x2, .int x3] (I, J, rf_w r, sh_w N, n)) Q := by
  exact (mc_WP.run (mc_adjs _) 6 (And.intro ⟨rfl, (show ¬ (77 : Nat) = 0 by decide)⟩ (And.intro (wl_ld rfl h.1) (And.intro (by decide) (And.intro (by decide) h.2)))))
set_option maxRecDepth 20000 in
theorem bk_177_10 {x1 : Int32} {x2 : Int32} {x3 : Int32} {y0 : Int32}
    (h : vp_in x2 64 ∧ ∃ R : mc_Q, mc_WP (mc_en 54 [.int (I 77 x2.toNatClampNeg), .int x3] (I, J, rf_w r, sh_w N, n)) R ∧ (∀ v t, R (.inl v) t → mc_WP (177, 22, [.ref 76, .int x1, .int x2, .int x3, .int y0, .null], v.toList ++ [], t, (0, 0)) Q) ∧ (∀ k t, R (.inr k) t → Q (.inr k) t)) :
    mc_WP (177, 10, [.ref 76, .int x1, .int x2, .int x3, .null, .null], [.int y0], (I, J, rf_w r, sh_w N, n), (0, 0)) Q := by
  exact (mc_WP.run (mc_adjs _) 7 (And.intro ⟨rfl, (show ¬ (77 : Nat) = 0 by decide)⟩ (And.intro (wl_ld rfl h.1) (And.intro (by decide) (And.intro (by decide) h.2)))))
set_option maxRecDepth 20000 in
theorem bk_177_22 {x1 : Int32} {x2 : Int32} {x3 : Int32} {x4 : Int32} {y0 : Int32}
    (h : (x4 < y0 → (Q (.inl (some (.int (1 : Int32)))) (I, J, rf_w r, sh_w N, n))) ∧
        (¬ (x4 < y0) →
        ((¬ x4 = y0 → (Q (.inl (some (.int (0 : Int32)))) (I, J, rf_w r, sh_w N, n))) ∧
          (¬ (¬ x4 = y0) →
          (vp_in x1 64 ∧ vp_in x2 64 ∧ ((I 77 x2.toNatClampNeg) ≤ (I 77 x1.toNatClampNeg) → (Q (.inl (some (.int (0 : Int32)))) (I, J, rf_w r, sh_w N, n))) ∧
            (¬ ((I 77 x2.toNatClampNeg) ≤ (I 77 x1.toNatClampNeg)) → (Q (.inl (some (.int (1 : Int32)))) (I, J, rf_w r, sh_w N, n)))))))) :
    mc_WP (177, 22, [.ref 76, .int x1, .int x2, .int x3, .int x4, .null], [.int y0], (I, J, rf_w r, sh_w N, n), (0, 0)) Q := by
  exact (mc_WP.run (mc_adjs _) 4 (And.intro (fun c10 => (mc_WP.run (mc_adjs _) 2 (mc_WP.run (mc_adjs _) 1 (And.intro (by decide) (h.1 c10))))) (fun c10 => (mc_WP.run (mc_adjs _) 3 (And.intro (fun c11 => (mc_WP.run (mc_adjs _) 2 (And.intro (by decide) ((h.2 c10).1 c11)))) (fun c11 => (mc_WP.run (mc_adjs _) 9 (And.intro ⟨rfl, (show ¬ (77 : Nat) = 0 by decide)⟩ (And.intro (wl_ld rfl ((h.2 c10).2 c11).1) (And.intro ⟨rfl, (show ¬ (77 : Nat) = 0 by decide)⟩ (And.intro (wl_ld rfl ((h.2 c10).2 c11).2.1) (And.intro (fun c12 => (mc_WP.run (mc_adjs _) 2 (And.intro (by decide) (((h.2 c10).2 c11).2.2.1 c12)))) (fun c12 => (mc_WP.run (mc_adjs _) 2 (mc_WP.run (mc_adjs _) 1 (And.intro (by decide) (((h.2 c10).2 c11).2.2.2 c12)))))))))))))))))
-- 178 swap(II)V inl<=6
set_option maxRecDepth 20000 in
theorem bk_178_0 {x1 : Int32} {x2 : Int32}
    (h : vp_in x1 64 ∧ vp_in x1 64 ∧ vp_in x2 64 ∧ vp_in x1 64 ∧ vp_in x2 64 ∧ vp_in x1 64 ∧ vp_in x2 64 ∧ vp_in x2 64 ∧ Q (.inl none) ((mc_up (mc_up (mc_up (mc_up I 77 x1.toNatClampNeg (I 77 x2.toNatClampNeg)) 78 x1.toNatClampNeg (I 78 x2.toNatClampNeg)) 77 x2.toNatClampNeg (I 77 x1.toNatClampNeg)) 78 x2.toNatClampNeg (I 78 x1.toNatClampNeg)), J, rf_w r, sh_w N, n)) :
    mc_WP (mc_en 178 [.ref 76, .int x1, .int x2] (I, J, rf_w r, sh_w N, n)) Q := by
  exact (mc_WP.run (mc_adjs _) 37 (And.intro ⟨rfl, (show ¬ (77 : Nat) = 0 by decide)⟩ (And.intro (wl_ld rfl h.1) (And.intro ⟨rfl, (show ¬ (78 : Nat) = 0 by decide)⟩ (And.intro (wl_ld rfl h.2.1) (And.intro ⟨rfl, (show ¬ (77 : Nat) = 0 by decide)⟩ (And.intro ⟨rfl, (show ¬ (77 : Nat) = 0 by decide)⟩ (And.intro (wl_ld rfl h.2.2.1) (And.intro (wl_st rfl h.2.2.2.1 (show 10 ≤ (77 : Nat) by decide)) (And.intro ⟨rfl, (show ¬ (78 : Nat) = 0 by decide)⟩ (And.intro ⟨rfl, (show ¬ (78 : Nat) = 0 by decide)⟩ (And.intro (wl_ld rfl h.2.2.2.2.1) (And.intro (wl_st rfl h.2.2.2.2.2.1 (show 10 ≤ (78 : Nat) by decide)) (And.intro ⟨rfl, (show ¬ (77 : Nat) = 0 by decide)⟩ (And.intro (wl_st rfl h.2.2.2.2.2.2.1 (show 10 ≤ (77 : Nat) by decide)) (And.intro ⟨rfl, (show ¬ (78 : Nat) = 0 by decide)⟩ (And.intro (wl_st rfl h.2.2.2.2.2.2.2.1 (show 10 ≤ (78 : Nat) by decide)) h.2.2.2.2.2.2.2.2)))))))))))))))))
-- 179 borderOf(I)I inl<=6
set_option maxRecDepth 20000 in
theorem bk_179_0 {x1 : Int32}
    (h : ∃ R : mc_Q, mc_WP (mc_en 180 [.ref 76, .int x1] (I, J, rf_w r, sh_w N, n)) R ∧ (∀ v t, R (.inl v) t → mc_WP (179, 5, [.ref 76, .int x1, .null, .null, .null], v.toList ++ [], t, (0, 0)) Q) ∧ (∀ k t, R (.inr k) t → Q (.inr k) t)) :
    mc_WP (mc_en 179 [.ref 76, .int x1] (I, J, rf_w r, sh_w N, n)) Q := by
  exact (mc_WP.run (mc_adjs _) 3 (And.intro rfl (And.intro (by decide) (And.intro (by decide) h))))
set_option maxRecDepth 20000 in
theorem bk_179_5 {x1 : Int32} {y0 : Int32}
    (h : vp_in x1 16 ∧ mc_WP (179, 16, [.ref 76, .int x1, .int y0, .int (0 : Int32), .int (I 79 x1.toNatClampNeg)], [], (I, J, rf_w r, sh_w N, n), (0, 0)) Q) :
    mc_WP (179, 5, [.ref 76, .int x1, .null, .null, .null], [.int y0], (I, J, rf_w r, sh_w N, n), (0, 0)) Q := by
  exact (mc_WP.run (mc_adjs _) 8 (And.intro ⟨rfl, (show ¬ (79 : Nat) = 0 by decide)⟩ (And.intro (wl_ld rfl h.1) h.2)))
set_option maxRecDepth 20000 in
theorem bk_179_16 {x1 : Int32} {x2 : Int32} {x3 : Int32} {x4 : Int32}
    (h : vp_in x1 16 ∧ (((I 80 x1.toNatClampNeg) - (1 : Int32)) ≤ x4 →
        (vp_in x1 16 ∧ Q (.inl (some (.int ((I 80 x1.toNatClampNeg) - (1 : Int32))))) (I, J, rf_w r, sh_w N, n))) ∧
        (¬ (((I 80 x1.toNatClampNeg) - (1 : Int32)) ≤ x4) →
        (vp_in x4 64 ∧ (((2 : Int32) * (x3 + (I 78 x4.toNatClampNeg))) < x2 →
          (mc_WP (179, 16, [.ref 76, .int x1, .int x2, .int (x3 + (I 78 x4.toNatClampNeg)), .int (x4 + (1 : Int32))], [], (I, J, rf_w r, sh_w N, n), (0, 0)) Q)) ∧
          (¬ (((2 : Int32) * (x3 + (I 78 x4.toNatClampNeg))) < x2) →
          (Q (.inl (some (.int (x4 + (1 : Int32))))) (I, J, rf_w r, sh_w N, n)))))) :
    mc_WP (179, 16, [.ref 76, .int x1, .int x2, .int x3, .int x4], [], (I, J, rf_w r, sh_w N, n), (0, 0)) Q := by
  exact (mc_WP.run (mc_adjs _) 8 (And.intro ⟨rfl, (show ¬ (80 : Nat) = 0 by decide)⟩ (And.intro (wl_ld rfl h.1) (And.intro (fun c6 => (mc_WP.run (mc_adjs _) 7 (And.intro ⟨rfl, (show ¬ (80 : Nat) = 0 by decide)⟩ (And.intro (wl_ld rfl (h.2.1 c6).1) (h.2.1 c6).2)))) (fun c6 => (mc_WP.run (mc_adjs _) 12 (And.intro ⟨rfl, (show ¬ (78 : Nat) = 0 by decide)⟩ (And.intro (wl_ld rfl (h.2.2 c6).1) (And.intro (fun c7 => (mc_WP.run (mc_adjs _) 2 ((h.2.2 c6).2.1 c7))) (fun c7 => (mc_WP.run (mc_adjs _) 4 ((h.2.2 c6).2.2 c7))))))))))))
-- 180 pixelsOf(I)I inl<=6
set_option maxRecDepth 20000 in
theorem bk_180_0 {x1 : Int32}
    (h : vp_in x1 16 ∧ mc_WP (180, 9, [.ref 76, .int x1, .int (0 : Int32), .int (I 79 x1.toNatClampNeg)], [], (I, J, rf_w r, sh_w N, n), (0, 0)) Q) :
    mc_WP (mc_en 180 [.ref 76, .int x1] (I, J, rf_w r, sh_w N, n)) Q := by
  exact (mc_WP.run (mc_adjs _) 7 (And.intro ⟨rfl, (show ¬ (79 : Nat) = 0 by decide)⟩ (And.intro (wl_ld rfl h.1) h.2)))
set_option maxRecDepth 20000 in
theorem bk_180_9 {x1 : Int32} {x2 : Int32} {x3 : Int32}
    (h : vp_in x1 16 ∧ ((I 80 x1.toNatClampNeg) ≤ x3 → (Q (.inl (some (.int x2))) (I, J, rf_w r, sh_w N, n))) ∧
        (¬ ((I 80 x1.toNatClampNeg) ≤ x3) →
        (vp_in x3 64 ∧ mc_WP (180, 9, [.ref 76, .int x1, .int (x2 + (I 78 x3.toNatClampNeg)), .int (x3 + (1 : Int32))], [], (I, J, rf_w r, sh_w N, n), (0, 0)) Q))) :
    mc_WP (180, 9, [.ref 76, .int x1, .int x2, .int x3], [], (I, J, rf_w r, sh_w N, n), (0, 0)) Q := by
  exact (mc_WP.run (mc_adjs _) 6 (And.intro ⟨rfl, (show ¬ (80 : Nat) = 0 by decide)⟩ (And.intro (wl_ld rfl h.1) (And.intro (fun c4 => (mc_WP.run (mc_adjs _) 2 (h.2.1 c4))) (fun c4 => (mc_WP.run (mc_adjs _) 9 (And.intro ⟨rfl, (show ¬ (78 : Nat) = 0 by decide)⟩ (And.intro (wl_ld rfl (h.2.2 c4).1) (h.2.2 c4).2))))))))
-- 181 meanOf(I)I inl<=6
set_option maxRecDepth 20000 in
theorem bk_181_0 {x1 : Int32}
    (h : ∃ R : mc_Q, mc_WP (mc_en 180 [.ref 76, .int x1] (I, J, rf_w r, sh_w N, n)) R ∧ (∀ v t, R (.inl v) t → mc_WP (181, 6, [.ref 76, .int x1, .null, .null, .null, .null, .null], v.toList ++ [.int (1 : Int32)], t, (0, 0)) Q) ∧ (∀ k t, R (.inr k) t → Q (.inr k) t)) :
    mc_WP (mc_en 181 [.ref 76, .int x1] (I, J, rf_w r, sh_w N, n)) Q := by
  exact (mc_WP.run (mc_adjs _) 4 (And.intro rfl (And.intro (by decide) (And.intro (by decide) h))))
set_option maxRecDepth 20000 in
theorem bk_181_6 {x1 : Int32} {y0 : Int32} {y1 : Int32}
    (h : mc_WP (181, 15, [.ref 76, .int x1, .int (if y0 < y1 then y1 else y0), .int (0 : Int32), .int (0 : Int32), .null, .null], [], (I, J, rf_w r, sh_w N, n), (0, 0)) Q) :
    mc_WP (181, 6, [.ref 76, .int x1, .null, .null, .null, .null, .null], [.int y1, .int y0], (I, J, rf_w r, sh_w N, n), (0, 0)) Q := by
  exact (mc_WP.run (mc_adjs _) 6 h)
set_option maxRecDepth 20000 in
theorem bk_181_15 {x1 : Int32} {x2 : Int32} {x3 : Int32} {x4 : Int32} {x5 : Value} {x6 : Value}
    (h : ((3 : Int32) ≤ x4 → (Q (.inl (some (.int x3))) (I, J, rf_w r, sh_w N, n))) ∧
        (¬ ((3 : Int32) ≤ x4) →
        (vp_in x1 16 ∧ mc_WP (181, 32, [.ref 76, .int x1, .int x2, .int x3, .int x4, .int (0 : Int32), .int (I 79 x1.toNatClampNeg)], [], (I, J, rf_w r, sh_w N, n), (0, 0)) Q))) :
    mc_WP (181, 15, [.ref 76, .int x1, .int x2, .int x3, .int x4, x5, x6], [], (I, J, rf_w r, sh_w N, n), (0, 0)) Q := by
  exact (mc_WP.run (mc_adjs _) 3 (And.intro (fun c4 => (mc_WP.run (mc_adjs _) 2 (h.1 c4))) (fun c4 => (mc_WP.run (mc_adjs _) 7 (And.intro ⟨rfl, (show ¬ (79 : Nat) = 0 by decide)⟩ (And.intro (wl_ld rfl (h.2 c4).1) (h.2 c4).2))))))
set_option maxRecDepth 20000 in
theorem bk_181_32 {x1 : Int32} {x2 : Int32} {x3 : Int32} {x4 : Int32} {x5 : Int32} {x6 : Int32}
    (h : vp_in x1 16 ∧ ((I 80 x1.toNatClampNeg) ≤ x6 →
        (¬ x2 = 0 ∧ mc_WP (181, 15, [.ref 76, .int x1, .int x2, .int ((x3 <<< ((8 : Int32) &&& 31)) ||| (x5 / x2)), .int (x4 + (1 : Int32)), .int x5, .int x6], [], (I, J, rf_w r, sh_w N, n), (0, 0)) Q)) ∧
        (¬ ((I 80 x1.toNatClampNeg) ≤ x6) →
        (vp_in x6 64 ∧ vp_in x6 64 ∧ mc_WP (181, 32, [.ref 76, .int x1, .int x2, .int x3, .int x4, .int (x5 + ((I 78 x6.toNatClampNeg) * (((I 77 x6.toNatClampNeg) >>> (((8 : Int32) * ((2 : Int32) - x4)) &&& 31)) &&& (255 : Int32)))), .int (x6 + (1 : Int32))], [], (I, J, rf_w r, sh_w N, n), (0, 0)) Q))) :
    mc_WP (181, 32, [.ref 76, .int x1, .int x2, .int x3, .int x4, .int x5, .int x6], [], (I, J, rf_w r, sh_w N, n), (0, 0)) Q := by
  exact (mc_WP.run (mc_adjs _) 6 (And.intro ⟨rfl, (show ¬ (80 : Nat) = 0 by decide)⟩ (And.intro (wl_ld rfl h.1) (And.intro (fun c6 => (mc_WP.run (mc_adjs _) 10 (And.intro (h.2.1 c6).1 (h.2.1 c6).2))) (fun c6 => (mc_WP.run (mc_adjs _) 11 (And.intro ⟨rfl, (show ¬ (78 : Nat) = 0 by decide)⟩ (And.intro (wl_ld rfl (h.2.2 c6).1) (And.intro ⟨rfl, (show ¬ (77 : Nat) = 0 by decide)⟩ (And.intro (wl_ld rfl (h.2.2 c6).2.1) (And.intro (by decide) (And.intro (by decide) (mc_inl (mc_WP.run (mc_adjs _) 10 (mc_WP.run (mc_adjs _) 5 (h.2.2 c6).2.2)))))))))))))))
-- 182 settleRow(LPaletteReel$Frame;I)V inl<=6
set_option maxRecDepth 20000 in
theorem bk_182_0 {a1 : Nat} {x2 : Int32} (ha1 : is_F a1)
    (h : (¬ (x2 &&& (1 : Int32)) = 0 →
        (mc_WP (182, 26, [.ref 76, .ref a1, .int x2, .int (0 : Int32), .int (-1 : Int32), .int (0 : Int32), .null, .null], [], (I, J, rf_w r, sh_w N, n), (0, 0)) Q)) ∧
        (¬ (¬ (x2 &&& (1 : Int32)) = 0) →
        (mc_WP (182, 26, [.ref 76, .ref a1, .int x2, .int (1 : Int32), .int (1 : Int32), .int (0 : Int32), .null, .null], [], (I, J, rf_w r, sh_w N, n), (0, 0)) Q))) :
    mc_WP (mc_en 182 [.ref 76, .ref a1, .int x2] (I, J, rf_w r, sh_w N, n)) Q := by
  exact (mc_WP.run (mc_adjs _) 4 (And.intro (fun c8 => (mc_WP.run (mc_adjs _) 4 (And.intro (fun _ => (mc_WP.run (mc_adjs _) 4 (h.1 c8))) (fun c => absurd (show (0 : Int32) = 0 by decide) c)))) (fun c8 => (mc_WP.run (mc_adjs _) 2 (mc_WP.run (mc_adjs _) 3 (And.intro (fun c => absurd c (show ¬ ((1 : Int32) = 0) by decide)) (fun _ => (mc_WP.run (mc_adjs _) 2 (mc_WP.run (mc_adjs _) 3 (h.2 c8))))))))))
set_option maxRecDepth 20000 in
theorem bk_182_26 {a1 : Nat} {x2 : Int32} {x3 : Int32} {x4 : Int32} {x5 : Int32} {x6 : Value} {x7 : Value} (ha1 : is_F a1)
    (h : ((I a1 4) ≤ x5 → (Q (.inl none) (I, J, rf_w r, sh_w N, n))) ∧
        (¬ ((I a1 4) ≤ x5) →
        ((x3 = 0 →
          (vp_in ((x2 * (8 : Int32)) + (((I a1 4) - (1 : Int32)) - x5)) 64 ∧ ∃ R : mc_Q, mc_WP (mc_en 183 [.ref 76, .int (I 75 ((x2 * (8 : Int32)) + (((I a1 4) - (1 : Int32)) - x5)).toNatClampNeg)] (I, J, rf_w r, sh_w N, n)) R ∧ (∀ v t, R (.inl v) t → mc_WP (182, 70, [.ref 76, .ref a1, .int x2, .int x3, .int x4, .int x5, .int (((I a1 4) - (1 : Int32)) - x5), x7], v.toList ++ [], t, (0, 0)) Q) ∧ (∀ k t, R (.inr k) t → Q (.inr k) t))) ∧
          (¬ (x3 = 0) →
          (vp_in ((x2 * (8 : Int32)) + x5) 64 ∧ ∃ R : mc_Q, mc_WP (mc_en 183 [.ref 76, .int (I 75 ((x2 * (8 : Int32)) + x5).toNatClampNeg)] (I, J, rf_w r, sh_w N, n)) R ∧ (∀ v t, R (.inl v) t → mc_WP (182, 70, [.ref 76, .ref a1, .int x2, .int x3, .int x4, .int x5, .int x5, x7], v.toList ++ [], t, (0, 0)) Q) ∧ (∀ k t, R (.inr k) t → Q (.inr k) t)))))) :
    mc_WP (182, 26, [.ref 76, .ref a1, .int x2, .int x3, .int x4, .int x5, x6, x7], [], (I, J, rf_w r, sh_w N, n), (0, 0)) Q := by
  exact (mc_WP.run (mc_adjs _) 4 (And.intro (wd_F (r := r) (N := N) ha1).1 (And.intro (fun c11 => (mc_WP.run (mc_adjs _) 1 (h.1 c11))) (fun c11 => (mc_WP.run (mc_adjs _) 2 (And.intro (fun c12 => (mc_WP.run (mc_adjs _) 13 (And.intro (wd_F (r := r) (N := N) ha1).1 (And.intro ⟨rfl, (show ¬ (75 : Nat) = 0 by decide)⟩ (And.intro (by decide) (And.intro (by decide) (mc_inl (mc_WP.run (mc_adjs _) 6 (mc_WP.run (mc_adjs _) 2 (And.intro (wl_ld rfl ((h.2 c11).1 c12).1) (And.intro rfl (And.intro (by decide) (And.intro (by decide) ((h.2 c11).1 c12).2))))))))))))) (fun c12 => (mc_WP.run (mc_adjs _) 2 (mc_WP.run (mc_adjs _) 7 (And.intro ⟨rfl, (show ¬ (75 : Nat) = 0 by decide)⟩ (And.intro (by decide) (And.intro (by decide) (mc_inl (mc_WP.run (mc_adjs _) 6 (mc_WP.run (mc_adjs _) 2 (And.intro (wl_ld rfl ((h.2 c11).2 c12).1) (And.intro rfl (And.intro (by decide) (And.intro (by decide) ((h.2 c11).2 c12).2)))))))))))))))))))
set_option maxRecDepth 20000 in
theorem bk_182_70 {a1 : Nat} {x2 : Int32} {x3 : Int32} {x4 : Int32} {x5 : Int32} {x6 : Int32} {x7 : Value} {y0 : Int32} (ha1 : is_F a1)
    (h : (¬ y0 = (-1 : Int32) →
        (mc_WP (182, 108, [.ref 76, .ref a1, .int x2, .int x3, .int x4, .int x5, .int x6, .int y0], [], (I, J, rf_w r, sh_w N, n), (0, 0)) Q)) ∧
        (¬ (¬ y0 = (-1 : Int32)) →
        (∃ R : mc_Q, mc_WP (mc_en 184 [.ref 76, .int x6, .int x2] (I, J, rf_w r, sh_w N, n)) R ∧ (∀ v t, R (.inl v) t → mc_WP (182, 85, [.ref 76, .ref a1, .int x2, .int x3, .int x4, .int x5, .int x6, .int y0], v.toList ++ [], t, (0, 0)) Q) ∧ (∀ k t, R (.inr k) t → Q (.inr k) t)))) :
    mc_WP (182, 70, [.ref 76, .ref a1, .int x2, .int x3, .int x4, .int x5, .int x6, x7], [.int y0], (I, J, rf_w r, sh_w N, n), (0, 0)) Q := by
  exact (mc_WP.run (mc_adjs _) 4 (And.intro (fun c3 => (h.1 c3)) (fun c3 => (mc_WP.run (mc_adjs _) 4 (And.intro rfl (And.intro (by decide) (And.intro (by decide) (h.2 c3))))))))
set_option maxRecDepth 20000 in
theorem bk_182_85 {a1 : Nat} {x2 : Int32} {x3 : Int32} {x4 : Int32} {x5 : Int32} {x6 : Int32} {x7 : Int32} (ha1 : is_F a1)
    (h : ∃ R : mc_Q, mc_WP (mc_en 185 [.ref 76] (I, J, rf_w r, sh_w N, n)) R ∧ (∀ v t, R (.inl v) t → mc_WP (182, 89, [.ref 76, .ref a1, .int x2, .int x3, .int x4, .int x5, .int x6, .int x7], v.toList ++ [], t, (0, 0)) Q) ∧ (∀ k t, R (.inr k) t → Q (.inr k) t)) :
    mc_WP (182, 85, [.ref 76, .ref a1, .int x2, .int x3, .int x4, .int x5, .int x6, .int x7], [], (I, J, rf_w r, sh_w N, n), (0, 0)) Q := by
  exact (mc_WP.run (mc_adjs _) 2 (And.intro rfl (And.intro (by decide) (And.intro (by decide) h))))
set_option maxRecDepth 20000 in
theorem bk_182_89 {a1 : Nat} {x2 : Int32} {x3 : Int32} {x4 : Int32} {x5 : Int32} {x6 : Int32} {x7 : Int32} {y0 : Int32} (ha1 : is_F a1)
    (h : vp_in y0 16 ∧ ∃ R : mc_Q, mc_WP (mc_en 187 [.ref 76, .ref a1, .int x6, .int x2, .int x4, .int (I 81 y0.toNatClampNeg)] (I, J, rf_w r, sh_w N, n)) R ∧ (∀ v t, R (.inl v) t → mc_WP (182, 108, [.ref 76, .ref a1, .int x2, .int x3, .int x4, .int x5, .int x6, .int y0], v.toList ++ [], t, (0, 0)) Q) ∧ (∀ k t, R (.inr k) t → Q (.inr k) t)) :
    mc_WP (182, 89, [.ref 76, .ref a1, .int x2, .int x3, .int x4, .int x5, .int x6, .int x7], [.int y0], (I, J, rf_w r, sh_w N, n), (0, 0)) Q := by
  exact (mc_WP.run (mc_adjs _) 11 (And.intro ⟨rfl, (show ¬ (81 : Nat) = 0 by decide)⟩ (And.intro (wl_ld rfl h.1) (And.intro rfl (And.intro (by decide) (And.intro (by decide) h.2))))))
set_option maxRecDepth 20000 in
theorem bk_182_108 {a1 : Nat} {x2 : Int32} {x3 : Int32} {x4 : Int32} {x5 : Int32} {x6 : Int32} {x7 : Int32} (ha1 : is_F a1)
    (h : vp_in ((x2 * (8 : Int32)) + x6) 64 ∧ mc_WP (182, 26, [.ref 76, .ref a1, .int x2, .int x3, .int x4, .int (x5 + (1 : Int32)), .int x6, .int x7], [], ((mc_up I (a1 + 1) ((x2 * (8 : Int32)) + x6).toNatClampNeg x7), J, rf_w r, sh_w N, n), (0, 0)) Q) :
    mc_WP (182, 108, [.ref 76, .ref a1, .int x2, .int x3, .int x4, .int x5, .int x6, .int x7], [], (I, J, rf_w r, sh_w N, n), (0, 0)) Q := by
  exact (by have g1 := h; have e2 : rf_w r a1 0 = (a1 + 1) := (wd_F (r := r) (N := N) ha1).2.1; have s3 : sh_w N (rf_w r a1 0) = (2, 64) := (by rw [e2]; exact (wd_F (r := r) (N := N) ha1).2.2.2.1); have ts3 : 10 ≤ rf_w r a1 0 := (by rw [e2]; exact wd_tF ha1 _); (try rw [← e2] at g1); exact (mc_WP.run (mc_adjs _) 5 (And.intro ⟨(wd_F (r := r) (N := N) ha1).1, (wd_Z s3)⟩ (And.intro (by decide) (And.intro (by decide) (mc_inl (mc_WP.run (mc_adjs _) 6 (mc_WP.run (mc_adjs _) 4 (And.intro (wl_st s3 g1.1 ts3) g1.2)))))))))
-- 183 boxWith(I)I inl<=6
set_option maxRecDepth 20000 in
theorem bk_183_0 {x1 : Int32}
    (h : mc_WP (183, 2, [.ref 76, .int x1, .int (0 : Int32)], [], (I, J, rf_w r, sh_w N, n), (0, 0)) Q) :
    mc_WP (mc_en 183 [.ref 76, .int x1] (I, J, rf_w r, sh_w N, n)) Q := by
  exact (mc_WP.run (mc_adjs _) 2 h)
set_option maxRecDepth 20000 in
theorem bk_183_2 {x1 : Int32} {x2 : Int32}
    (h : ((I 76 9) ≤ x2 →
        (Q (.inl (some (.int (-1 : Int32)))) (I, J, rf_w r, sh_w N, n))) ∧
        (¬ ((I 76 9) ≤ x2) →
        (vp_in x2 16 ∧ (¬ (I 81 x2.toNatClampNeg) = x1 →
          (mc_WP (183, 2, [.ref 76, .int x1, .int (x2 + (1 : Int32))], [], (I, J, rf_w r, sh_w N, n), (0, 0)) Q)) ∧
          (¬ (¬ (I 81 x2.toNatClampNeg) = x1) → (Q (.inl (some (.int x2))) (I, J, rf_w r, sh_w N, n)))))) :
    mc_WP (183, 2, [.ref 76, .int x1, .int x2], [], (I, J, rf_w r, sh_w N, n), (0, 0)) Q := by
  exact (mc_WP.run (mc_adjs _) 4 (And.intro rfl (And.intro (fun c6 => (mc_WP.run (mc_adjs _) 2 (h.1 c6))) (fun c6 => (mc_WP.run (mc_adjs _) 6 (And.intro ⟨rfl, (show ¬ (81 : Nat) = 0 by decide)⟩ (And.intro (wl_ld rfl (h.2 c6).1) (And.intro (fun c7 => (mc_WP.run (mc_adjs _) 2 ((h.2 c6).2.1 c7))) (fun c7 => (mc_WP.run (mc_adjs _) 2 ((h.2 c6).2.2 c7)))))))))))
-- 184 wish(II)V inl<=6
set_option maxRecDepth 20000 in
theorem bk_184_0 {x1 : Int32} {x2 : Int32}
    (h : mc_WP (184, 9, [.ref 76, .int x1, .int x2, .int ((x2 * (8 : Int32)) + x1), .int (0 : Int32), .null], [], (I, J, rf_w r, sh_w N, n), (0, 0)) Q) :
    mc_WP (mc_en 184 [.ref 76, .int x1, .int x2] (I, J, rf_w r, sh_w N, n)) Q := by
  exact (mc_WP.run (mc_adjs _) 3 (And.intro (by decide) (And.intro (by decide) (mc_inl (mc_WP.run (mc_adjs _) 6 (mc_WP.run (mc_adjs _) 3 h))))))
set_option maxRecDepth 20000 in
theorem bk_184_9 {x1 : Int32} {x2 : Int32} {x3 : Int32} {x4 : Int32} {x5 : Value}
    (h : ((3 : Int32) ≤ x4 → (Q (.inl none) (I, J, rf_w r, sh_w N, n))) ∧
        (¬ ((3 : Int32) ≤ x4) →
        (vp_in x3 64 ∧ (¬ (I 76 10) = (1 : Int32) →
          (vp_in ((x3 * (3 : Int32)) + x4) 192 ∧ ¬ (16 : Int32) = 0 ∧ vp_in x4 3 ∧ mc_WP (184, 9, [.ref 76, .int x1, .int x2, .int x3, .int (x4 + (1 : Int32)), .int ((((I 75 x3.toNatClampNeg) >>> (((8 : Int32) * ((2 : Int32) - x4)) &&& 31)) &&& (255 : Int32)) + ((I 82 ((x3 * (3 : Int32)) + x4).toNatClampNeg) / (16 : Int32)))], [], ((mc_up I 83 x4.toNatClampNeg (if (0 : Int32) < (if ((((I 75 x3.toNatClampNeg) >>> (((8 : Int32) * ((2 : Int32) - x4)) &&& 31)) &&& (255 : Int32)) + ((I 82 ((x3 * (3 : Int32)) + x4).toNatClampNeg) / (16 : Int32))) < (255 : Int32) then ((((I 75 x3.toNatClampNeg) >>> (((8 : Int32) * ((2 : Int32) - x4)) &&& 31)) &&& (255 : Int32)) + ((I 82 ((x3 * (3 : Int32)) + x4).toNatClampNeg) / (16 : Int32))) else (255 : Int32)) then (if ((((I 75 x3.toNatClampNeg) >>> (((8 : Int32) * ((2 : Int32) - x4)) &&& 31)) &&& (255 : Int32)) + ((I 82 ((x3 * (3 : Int32)) + x4).toNatClampNeg) / (16 : Int32))) < (255 : Int32) then ((((I 75 x3.toNatClampNeg) >>> (((8 : Int32) * ((2 : Int32) - x4)) &&& 31)) &&& (255 : Int32)) + ((I 82 ((x3 * (3 : Int32)) + x4).toNatClampNeg) / (16 : Int32))) else (255 : Int32)) else (0 : Int32))), J, rf_w r, sh_w N, n), (0, 0)) Q)) ∧
          (¬ (¬ (I 76 10) = (1 : Int32)) →
          (vp_in (((x2 &&& (1 : Int32)) * (2 : Int32)) + (x1 &&& (1 : Int32))) 4 ∧ vp_in x4 3 ∧ mc_WP (184, 9, [.ref 76, .int x1, .int x2, .int x3, .int (x4 + (1 : Int32)), .int ((((I 75 x3.toNatClampNeg) >>> (((8 : Int32) * ((2 : Int32) - x4)) &&& 31)) &&& (255 : Int32)) + (I 4 (((x2 &&& (1 : Int32)) * (2 : Int32)) + (x1 &&& (1 : Int32))).toNatClampNeg))], [], ((mc_up I 83 x4.toNatClampNeg (if (0 : Int32) < (if ((((I 75 x3.toNatClampNeg) >>> (((8 : Int32) * ((2 : Int32) - x4)) &&& 31)) &&& (255 : Int32)) + (I 4 (((x2 &&& (1 : Int32)) * (2 : Int32)) + (x1 &&& (1 : Int32))).toNatClampNeg)) < (255 : Int32) then ((((I 75 x3.toNatClampNeg) >>> (((8 : Int32) * ((2 : Int32) - x4)) &&& 31)) &&& (255 : Int32)) + (I 4 (((x2 &&& (1 : Int32)) * (2 : Int32)) + (x1 &&& (1 : Int32))).toNatClampNeg)) else (255 : Int32)) then (if ((((I 75 x3.toNatClampNeg) >>> (((8 : Int32) * ((2 : Int32) - x4)) &&& 31)) &&& (255 : Int32)) + (I 4 (((x2 &&& (1 : Int32)) * (2 : Int32)) + (x1 &&& (1 : Int32))).toNatClampNeg)) < (255 : Int32) then ((((I 75 x3.toNatClampNeg) >>> (((8 : Int32) * ((2 : Int32) - x4)) &&& 31)) &&& (255 : Int32)) + (I 4 (((x2 &&& (1 : Int32)) * (2 : Int32)) + (x1 &&& (1 : Int32))).toNatClampNeg)) else (255 : Int32)) else (0 : Int32))), J, rf_w r, sh_w N, n), (0, 0)) Q))))) :
    mc_WP (184, 9, [.ref 76, .int x1, .int x2, .int x3, .int x4, x5], [], (I, J, rf_w r, sh_w N, n), (0, 0)) Q := by
  exact (mc_WP.run (mc_adjs _) 3 (And.intro (fun c9 => (mc_WP.run (mc_adjs _) 1 (h.1 c9))) (fun c9 => (mc_WP.run (mc_adjs _) 6 (And.intro ⟨rfl, (show ¬ (75 : Nat) = 0 by decide)⟩ (And.intro (wl_ld rfl (h.2 c9).1) (And.intro (by decide) (And.intro (by decide) (mc_inl (mc_WP.run (mc_adjs _) 10 (mc_WP.run (mc_adjs _) 5 (And.intro rfl (And.intro (fun c10 => (mc_WP.run (mc_adjs _) 24 (And.intro ⟨rfl, (show ¬ (82 : Nat) = 0 by decide)⟩ (And.intro (wl_ld rfl ((h.2 c9).2.1 c10).1) (And.intro (by decide) (And.intro ⟨rfl, (show ¬ (83 : Nat) = 0 by decide)⟩ (And.intro (wl_st rfl ((h.2 c9).2.1 c10).2.2.1 (show 10 ≤ (83 : Nat) by decide)) ((h.2 c9).2.1 c10).2.2.2))))))) (fun c10 => (mc_WP.run (mc_adjs _) 15 (And.intro (wl_ld rfl ((h.2 c9).2.2 c10).1) (mc_WP.run (mc_adjs _) 11 (And.intro ⟨rfl, (show ¬ (83 : Nat) = 0 by decide)⟩ (And.intro (wl_st rfl ((h.2 c9).2.2 c10).2.1 (show 10 ≤ (83 : Nat) by decide)) ((h.2 c9).2.2 c10).2.2)))))))))))))))))))
-- 185 nearestBox()I inl<=6
set_option maxRecDepth 20000 in
theorem bk_185_0
    (h : mc_WP (185, 4, [.ref 76, .int (0 : Int32), .int (1 : Int32)], [], (I, J, rf_w r, sh_w N, n), (0, 0)) Q) :
    mc_WP (mc_en 185 [.ref 76] (I, J, rf_w r, sh_w N, n)) Q := by
  exact (mc_WP.run (mc_adjs _) 4 h)
set_option maxRecDepth 20000 in
theorem bk_185_4 {x1 : Int32} {x2 : Int32}
    (h : ((I 76 9) ≤ x2 → (Q (.inl (some (.int x1))) (I, J, rf_w r, sh_w N, n))) ∧
        (¬ ((I 76 9) ≤ x2) →
        (vp_in x2 16 ∧ ∃ R : mc_Q, mc_WP (mc_en 186 [.ref 76, .int (I 81 x2.toNatClampNeg)] (I, J, rf_w r, sh_w N, n)) R ∧ (∀ v t, R (.inl v) t → mc_WP (185, 22, [.ref 76, .int x1, .int x2], v.toList ++ [], t, (0, 0)) Q) ∧ (∀ k t, R (.inr k) t → Q (.inr k) t)))) :
    mc_WP (185, 4, [.ref 76, .int x1, .int x2], [], (I, J, rf_w r, sh_w N, n), (0, 0)) Q := by
  exact (mc_WP.run (mc_adjs _) 4 (And.intro rfl (And.intro (fun c4 => (mc_WP.run (mc_adjs _) 2 (h.1 c4))) (fun c4 => (mc_WP.run (mc_adjs _) 6 (And.intro ⟨rfl, (show ¬ (81 : Nat) = 0 by decide)⟩ (And.intro (wl_ld rfl (h.2 c4).1) (And.intro rfl (And.intro (by decide) (And.intro (by decide) (h.2 c4).2))))))))))
set_option maxRecDepth 20000 in
theorem bk_185_22 {x1 : Int32} {x2 : Int32} {y0 : Int32}
    (h : vp_in x1 16 ∧ ∃ R : mc_Q, mc_WP (mc_en 186 [.ref 76, .int (I 81 x1.toNatClampNeg)] (I, J, rf_w r, sh_w N, n)) R ∧ (∀ v t, R (.inl v) t → mc_WP (185, 32, [.ref 76, .int x1, .int x2], v.toList ++ [.int y0], t, (0, 0)) Q) ∧ (∀ k t, R (.inr k) t → Q (.inr k) t)) :
    mc_WP (185, 22, [.ref 76, .int x1, .int x2], [.int y0], (I, J, rf_w r, sh_w N, n), (0, 0)) Q := by
  exact (mc_WP.run (mc_adjs _) 6 (And.intro ⟨rfl, (show ¬ (81 : Nat) = 0 by decide)⟩ (And.intro (wl_ld rfl h.1) (And.intro rfl (And.intro (by decide) (And.intro (by decide) h.2))))))
set_option maxRecDepth 20000 in
theorem bk_185_32 {x1 : Int32} {x2 : Int32} {y0 : Int32} {y1 : Int32}
    (h : (y1 ≤ y0 →
        (mc_WP (185, 4, [.ref 76, .int x1, .int (x2 + (1 : Int32))], [], (I, J, rf_w r, sh_w N, n), (0, 0)) Q)) ∧
        (¬ (y1 ≤ y0) →
        (mc_WP (185, 4, [.ref 76, .int x2, .int (x2 + (1 : Int32))], [], (I, J, rf_w r, sh_w N, n), (0, 0)) Q))) :
    mc_WP (185, 32, [.ref 76, .int x1, .int x2], [.int y1, .int y0], (I, J, rf_w r, sh_w N, n), (0, 0)) Q := by
  exact (mc_WP.run (mc_adjs _) 1 (And.intro (fun c4 => (mc_WP.run (mc_adjs _) 2 (h.1 c4))) (fun c4 => (mc_WP.run (mc_adjs _) 4 (h.2 c4)))))
-- 186 distanceTo(I)I inl<=6
set_option maxRecDepth 20000 in
theorem bk_186_0 {x1 : Int32}
    (h : mc_WP (186, 4, [.ref 76, .int x1, .int (0 : Int32), .int (0 : Int32), .null], [], (I, J, rf_w r, sh_w N, n), (0, 0)) Q) :
    mc_WP (mc_en 186 [.ref 76, .int x1] (I, J, rf_w r, sh_w N, n)) Q := by
  exact (mc_WP.run (mc_adjs _) 4 h)
set_option maxRecDepth 20000 in
theorem bk_186_4 {x1 : Int32} {x2 : Int32} {x3 : Int32} {x4 : Value}
    (h : ((3 : Int32) ≤ x3 → (Q (.inl (some (.int x2))) (I, J, rf_w r, sh_w N, n))) ∧
        (¬ ((3 : Int32) ≤ x3) →
        (vp_in x3 3 ∧ mc_WP (186, 4, [.ref 76, .int x1, .int (x2 + (((I 83 x3.toNatClampNeg) - ((x1 >>> (((8 : Int32) * ((2 : Int32) - x3)) &&& 31)) &&& (255 : Int32))) * ((I 83 x3.toNatClampNeg) - ((x1 >>> (((8 : Int32) * ((2 : Int32) - x3)) &&& 31)) &&& (255 : Int32))))), .int (x3 + (1 : Int32)), .int ((I 83 x3.toNatClampNeg) - ((x1 >>> (((8 : Int32) * ((2 : Int32) - x3)) &&& 31)) &&& (255 : Int32)))], [], (I, J, rf_w r, sh_w N, n), (0, 0)) Q))) :
    mc_WP (186, 4, [.ref 76, .int x1, .int x2, .int x3, x4], [], (I, J, rf_w r, sh_w N, n), (0, 0)) Q := by
  exact (mc_WP.run (mc_adjs _) 3 (And.intro (fun c6 => (mc_WP.run (mc_adjs _) 2 (h.1 c6))) (fun c6 => (mc_WP.run (mc_adjs _) 7 (And.intro ⟨rfl, (show ¬ (83 : Nat) = 0 by decide)⟩ (And.intro (wl_ld rfl (h.2 c6).1) (And.intro (by decide) (And.intro (by decide) (mc_inl (mc_WP.run (mc_adjs _) 10 (mc_WP.run (mc_adjs _) 10 (h.2 c6).2)))))))))))
-- 187 handOn(LPaletteReel$Frame;IIII)V inl<=6
set_option maxRecDepth 20000 in
theorem bk_187_0 {a1 : Nat} {x2 : Int32} {x3 : Int32} {x4 : Int32} {x5 : Int32} (ha1 : is_F a1)
    (h : (¬ (I 76 10) = (2 : Int32) →
        (mc_WP (187, 64, [.ref 76, .ref a1, .int x2, .int x3, .int x4, .int x5], [], (I, J, rf_w r, sh_w N, n), (0, 0)) Q)) ∧
        (¬ (¬ (I 76 10) = (2 : Int32)) →
        (∃ R : mc_Q, mc_WP (mc_en 188 [.ref 76, .ref a1, .int (x2 + x4), .int x3, .int (7 : Int32), .int x5] (I, J, rf_w r, sh_w N, n)) R ∧ (∀ v t, R (.inl v) t → mc_WP (187, 22, [.ref 76, .ref a1, .int x2, .int x3, .int x4, .int x5], v.toList ++ [], t, (0, 0)) Q) ∧ (∀ k t, R (.inr k) t → Q (.inr k) t)))) :
    mc_WP (mc_en 187 [.ref 76, .ref a1, .int x2, .int x3, .int x4, .int x5] (I, J, rf_w r, sh_w N, n)) Q := by
  exact (mc_WP.run (mc_adjs _) 4 (And.intro rfl (And.intro (fun c3 => (h.1 c3)) (fun c3 => (mc_WP.run (mc_adjs _) 9 (And.intro rfl (And.intro (by decide) (And.intro (by decide) (h.2 c3)))))))))
set_option maxRecDepth 20000 in
theorem bk_187_22 {a1 : Nat} {x2 : Int32} {x3 : Int32} {x4 : Int32} {x5 : Int32} (ha1 : is_F a1)
    (h : ∃ R : mc_Q, mc_WP (mc_en 188 [.ref 76, .ref a1, .int (x2 - x4), .int (x3 + (1 : Int32)), .int (3 : Int32), .int x5] (I, J, rf_w r, sh_w N, n)) R ∧ (∀ v t, R (.inl v) t → mc_WP (187, 37, [.ref 76, .ref a1, .int x2, .int x3, .int x4, .int x5], v.toList ++ [], t, (0, 0)) Q) ∧ (∀ k t, R (.inr k) t → Q (.inr k) t)) :
    mc_WP (187, 22, [.ref 76, .ref a1, .int x2, .int x3, .int x4, .int x5], [], (I, J, rf_w r, sh_w N, n), (0, 0)) Q := by
  exact (mc_WP.run (mc_adjs _) 11 (And.intro rfl (And.intro (by decide) (And.intro (by decide) h))))
set_option maxRecDepth 20000 in
theorem bk_187_37 {a1 : Nat} {x2 : Int32} {x3 : Int32} {x4 : Int32} {x5 : Int32} (ha1 : is_F a1)
    (h : ∃ R : mc_Q, mc_WP (mc_en 188 [.ref 76, .ref a1, .int x2, .int (x3 + (1 : Int32)), .int (5 : Int32), .int x5] (I, J, rf_w r, sh_w N, n)) R ∧ (∀ v t, R (.inl v) t → mc_WP (187, 49, [.ref 76, .ref a1, .int x2, .int x3, .int x4, .int x5], v.toList ++ [], t, (0, 0)) Q) ∧ (∀ k t, R (.inr k) t → Q (.inr k) t)) :
    mc_WP (187, 37, [.ref 76, .ref a1, .int x2, .int x3, .int x4, .int x5], [], (I, J, rf_w r, sh_w N, n), (0, 0)) Q := by
  exact (mc_WP.run (mc_adjs _) 9 (And.intro rfl (And.intro (by decide) (And.intro (by decide) h))))
set_option maxRecDepth 20000 in
theorem bk_187_49 {a1 : Nat} {x2 : Int32} {x3 : Int32} {x4 : Int32} {x5 : Int32} (ha1 : is_F a1)
    (h : ∃ R : mc_Q, mc_WP (mc_en 188 [.ref 76, .ref a1, .int (x2 + x4), .int (x3 + (1 : Int32)), .int (1 : Int32), .int x5] (I, J, rf_w r, sh_w N, n)) R ∧ (∀ v t, R (.inl v) t → mc_WP (187, 64, [.ref 76, .ref a1, .int x2, .int x3, .int x4, .int x5], v.toList ++ [], t, (0, 0)) Q) ∧ (∀ k t, R (.inr k) t → Q (.inr k) t)) :
    mc_WP (187, 49, [.ref 76, .ref a1, .int x2, .int x3, .int x4, .int x5], [], (I, J, rf_w r, sh_w N, n), (0, 0)) Q := by
  exact (mc_WP.run (mc_adjs _) 11 (And.intro rfl (And.intro (by decide) (And.intro (by decide) h))))
set_option maxRecDepth 20000 in
theorem bk_187_64 {a1 : Nat} {x2 : Int32} {x3 : Int32} {x4 : Int32} {x5 : Int32} (ha1 : is_F a1)
    (h : Q (.inl none) (I, J, rf_w r, sh_w N, n)) :
    mc_WP (187, 64, [.ref 76, .ref a1, .int x2, .int x3, .int x4, .int x5], [], (I, J, rf_w r, sh_w N, n), (0, 0)) Q := by
  exact (mc_WP.run (mc_adjs _) 1 h)
-- 188 addError(LPaletteReel$Frame;IIII)V inl<=6
set_option maxRecDepth 20000 in
theorem bk_188_0 {a1 : Nat} {x2 : Int32} {x3 : Int32} {x4 : Int32} {x5 : Int32} (ha1 : is_F a1)
    (h : (x2 < 0 → (Q (.inl none) (I, J, rf_w r, sh_w N, n))) ∧
        (¬ (x2 < 0) →
        (((I a1 4) ≤ x2 → (Q (.inl none) (I, J, rf_w r, sh_w N, n))) ∧
          (¬ ((I a1 4) ≤ x2) →
          ((x3 < 0 → (Q (.inl none) (I, J, rf_w r, sh_w N, n))) ∧
            (¬ (x3 < 0) →
            (((I a1 5) ≤ x3 → (Q (.inl none) (I, J, rf_w r, sh_w N, n))) ∧
              (¬ ((I a1 5) ≤ x3) →
              (mc_WP (188, 19, [.ref 76, .ref a1, .int x2, .int x3, .int x4, .int x5, .int (0 : Int32)], [], (I, J, rf_w r, sh_w N, n), (0, 0)) Q))))))))) :
    mc_WP (mc_en 188 [.ref 76, .ref a1, .int x2, .int x3, .int x4, .int x5] (I, J, rf_w r, sh_w N, n)) Q := by
  exact (mc_WP.run (mc_adjs _) 7 (And.intro (wd_F (r := r) (N := N) ha1).1 (And.intro (wd_F (r := r) (N := N) ha1).1 (And.intro (by decide) (And.intro (by decide) (mc_inl (mc_WP.run (mc_adjs _) 2 (And.intro (fun c22 => (mc_WP.run (mc_adjs _) 2 (And.intro (by decide) (mc_WP.run (mc_adjs _) 1 (And.intro (fun _ => (mc_WP.run (mc_adjs _) 1 (h.1 c22))) (fun c => absurd (show (0 : Int32) = 0 by decide) c)))))) (fun c22 => (mc_WP.run (mc_adjs _) 3 (And.intro (fun c23 => (mc_WP.run (mc_adjs _) 2 (And.intro (by decide) (mc_WP.run (mc_adjs _) 1 (And.intro (fun _ => (mc_WP.run (mc_adjs _) 1 ((h.2 c22).1 c23))) (fun c => absurd (show (0 : Int32) = 0 by decide) c)))))) (fun c23 => (mc_WP.run (mc_adjs _) 2 (And.intro (fun c24 => (mc_WP.run (mc_adjs _) 2 (And.intro (by decide) (mc_WP.run (mc_adjs _) 1 (And.intro (fun _ => (mc_WP.run (mc_adjs _) 1 (((h.2 c22).2 c23).1 c24))) (fun c => absurd (show (0 : Int32) = 0 by decide) c)))))) (fun c24 => (mc_WP.run (mc_adjs _) 3 (And.intro (fun c25 => (mc_WP.run (mc_adjs _) 2 (And.intro (by decide) (mc_WP.run (mc_adjs _) 1 (And.intro (fun _ => (mc_WP.run (mc_adjs _) 1 ((((h.2 c22).2 c23).2 c24).1 c25))) (fun c => absurd (show (0 : Int32) = 0 by decide) c)))))) (fun c25 => (mc_WP.run (mc_adjs _) 2 (mc_WP.run (mc_adjs _) 1 (And.intro (by decide) (mc_WP.run (mc_adjs _) 1 (And.intro (fun c => absurd c (show ¬ ((1 : Int32) = 0) by decide)) (fun _ => (mc_WP.run (mc_adjs _) 2 ((((h.2 c22).2 c23).2 c24).2 c25))))))))))))))))))))))))))
set_option maxRecDepth 20000 in
theorem bk_188_19 {a1 : Nat} {x2 : Int32} {x3 : Int32} {x4 : Int32} {x5 : Int32} {x6 : Int32} (ha1 : is_F a1)
    (h : ((3 : Int32) ≤ x6 → (Q (.inl none) (I, J, rf_w r, sh_w N, n))) ∧
        (¬ ((3 : Int32) ≤ x6) →
        (vp_in ((((x3 * (8 : Int32)) + x2) * (3 : Int32)) + x6) 192 ∧ vp_in x6 3 ∧ vp_in ((((x3 * (8 : Int32)) + x2) * (3 : Int32)) + x6) 192 ∧ mc_WP (188, 19, [.ref 76, .ref a1, .int x2, .int x3, .int x4, .int x5, .int (x6 + (1 : Int32))], [], ((mc_up I 82 ((((x3 * (8 : Int32)) + x2) * (3 : Int32)) + x6).toNatClampNeg ((I 82 ((((x3 * (8 : Int32)) + x2) * (3 : Int32)) + x6).toNatClampNeg) + (x4 * ((I 83 x6.toNatClampNeg) - ((x5 >>> (((8 : Int32) * ((2 : Int32) - x6)) &&& 31)) &&& (255 : Int32)))))), J, rf_w r, sh_w N, n), (0, 0)) Q))) :
    mc_WP (188, 19, [.ref 76, .ref a1, .int x2, .int x3, .int x4, .int x5, .int x6], [], (I, J, rf_w r, sh_w N, n), (0, 0)) Q := by
  exact (mc_WP.run (mc_adjs _) 3 (And.intro (fun c8 => (mc_WP.run (mc_adjs _) 1 (h.1 c8))) (fun c8 => (mc_WP.run (mc_adjs _) 5 (And.intro ⟨rfl, (show ¬ (82 : Nat) = 0 by decide)⟩ (And.intro (by decide) (And.intro (by decide) (mc_inl (mc_WP.run (mc_adjs _) 6 (mc_WP.run (mc_adjs _) 14 (And.intro (wl_ld rfl (h.2 c8).1) (And.intro ⟨rfl, (show ¬ (83 : Nat) = 0 by decide)⟩ (And.intro (wl_ld rfl (h.2 c8).2.1) (And.intro (by decide) (And.intro (by decide) (mc_inl (mc_WP.run (mc_adjs _) 10 (mc_WP.run (mc_adjs _) 6 (And.intro (wl_st rfl (h.2 c8).2.2.1 (show 10 ≤ (82 : Nat) by decide)) (h.2 c8).2.2.2)))))))))))))))))))
-- 189 begin(III)V inl<=6
set_option maxRecDepth 20000 in
theorem bk_189_0 {a0 : Nat} {x1 : Int32} {x2 : Int32} {x3 : Int32} (ha0 : is_R a0)
    (h : ∃ R : mc_Q, mc_WP (mc_en 156 [.ref (a0 + 1), .int x3] ((mc_up (mc_up (mc_up I a0 2 x1) a0 3 x2) a0 4 (0 : Int32)), J, rf_w r, sh_w N, n)) R ∧ (∀ v t, R (.inl v) t → mc_WP (189, 23, [.ref a0, .int x1, .int x2, .int x3], v.toList ++ [], t, (0, 0)) Q) ∧ (∀ k t, R (.inr k) t → Q (.inr k) t)) :
    mc_WP (mc_en 189 [.ref a0, .int x1, .int x2, .int x3] (I, J, rf_w r, sh_w N, n)) Q := by
  exact (by have g1 := h; have e2 : rf_w r a0 0 = (a0 + 1) := (wd_R (r := r) (N := N) ha0).2.1; have s3 : sh_w N (rf_w r a0 0) = (1, 6) := (by rw [e2]; exact (wd_R (r := r) (N := N) ha0).2.2.2.1); have k4 : is_P (rf_w r a0 0) := (by rw [e2]; exact (wd_R (r := r) (N := N) ha0).2.2.2.2.1); (try rw [← e2] at g1); exact (mc_WP.run (mc_adjs _) 13 (And.intro (wd_R (r := r) (N := N) ha0).1 (And.intro (wd_R (r := r) (N := N) ha0).1 (And.intro (wd_R (r := r) (N := N) ha0).1 (And.intro ⟨(wd_R (r := r) (N := N) ha0).1, (wd_Z s3)⟩ (And.intro s3 (And.intro (by decide) (And.intro (by decide) g1)))))))))
set_option maxRecDepth 20000 in
theorem bk_189_23 {a0 : Nat} {x1 : Int32} {x2 : Int32} {x3 : Int32} (ha0 : is_R a0)
    (h : Q (.inl none) (I, J, rf_w r, sh_w N, n)) :
    mc_WP (189, 23, [.ref a0, .int x1, .int x2, .int x3], [], (I, J, rf_w r, sh_w N, n), (0, 0)) Q := by
  exact (mc_WP.run (mc_adjs _) 1 h)
-- 190 add(IIII)LPaletteReel$Frame; inl<=6
set_option maxRecDepth 20000 in
theorem bk_190_0 {a0 : Nat} {x1 : Int32} {x2 : Int32} {x3 : Int32} {x4 : Int32} (ha0 : is_R a0)
    (h : vp_in (I a0 4) 4 ∧ ∃ R : mc_Q, mc_WP (mc_en 140 [.ref (a0 + 4 + 4 * (I a0 4).toNatClampNeg), .int x1, .int x2, .int x3, .int x4] (I, J, rf_w r, sh_w N, n)) R ∧ (∀ v t, R (.inl v) t → mc_WP (190, 21, [.ref a0, .int x1, .int x2, .int x3, .int x4, .ref (a0 + 4 + 4 * (I a0 4).toNatClampNeg)], v.toList ++ [], t, (0, 0)) Q) ∧ (∀ k t, R (.inr k) t → Q (.inr k) t)) :
    mc_WP (mc_en 190 [.ref a0, .int x1, .int x2, .int x3, .int x4] (I, J, rf_w r, sh_w N, n)) Q := by
  exact (by have g1 := h; have e2 : rf_w r a0 1 = (a0 + 3) := (wd_R (r := r) (N := N) ha0).2.2.1; have s3 : sh_w N (rf_w r a0 1) = (3, 4) := (by rw [e2]; exact (wd_R (r := r) (N := N) ha0).2.2.2.2.2); (try rw [← e2] at g1); have f4 : vp_in (I a0 4) 4 := g1.1; have e5 : rf_w r (rf_w r a0 1) (I a0 4).toNatClampNeg = (a0 + 4 + 4 * (I a0 4).toNatClampNeg) := (by rw [e2]; exact (wd_A (r := r) (N := N) ha0 f4).1); have s6 : sh_w N (rf_w r (rf_w r a0 1) (I a0 4).toNatClampNeg) = (1, 4) := (by rw [e5]; exact (wd_A (r := r) (N := N) ha0 f4).2.1); have k7 : is_F (rf_w r (rf_w r a0 1) (I a0 4).toNatClampNeg) := (by rw [e5]; exact (wd_A (r := r) (N := N) ha0 f4).2.2); (try rw [← e5] at g1); exact (mc_WP.run (mc_adjs _) 12 (And.intro ⟨(wd_R (r := r) (N := N) ha0).1, (wd_Z s3)⟩ (And.intro (wd_R (r := r) (N := N) ha0).1 (And.intro (wl_la s3 g1.1 (wd_Z s6)) (And.intro s6 (And.intro (by decide) (And.intro (by decide) g1.2))))))))
set_option maxRecDepth 20000 in
theorem bk_190_21 {a0 : Nat} {x1 : Int32} {x2 : Int32} {x3 : Int32} {x4 : Int32} {a5 : Nat} (ha0 : is_R a0) (ha5 : is_F a5)
    (h : Q (.inl (some (.ref a5))) ((mc_up I a0 4 ((I a0 4) + (1 : Int32))), J, rf_w r, sh_w N, n)) :
    mc_WP (190, 21, [.ref a0, .int x1, .int x2, .int x3, .int x4, .ref a5], [], (I, J, rf_w r, sh_w N, n), (0, 0)) Q := by
  exact (mc_WP.run (mc_adjs _) 8 (And.intro (wd_R (r := r) (N := N) ha0).1 (And.intro (wd_R (r := r) (N := N) ha0).1 h)))
-- 191 paletteOf(LPaletteReel$Frame;)LPaletteReel$Palette; inl<=6
set_option maxRecDepth 20000 in
theorem bk_191_0 {a0 : Nat} {a1 : Nat} (ha0 : is_R a0) (ha1 : is_F a1)
    (h : ((I (a1 + 2) 1) ≤ 0 → (Q (.inl (some (.ref (a0 + 1)))) (I, J, rf_w r, sh_w N, n))) ∧
        (¬ ((I (a1 + 2) 1) ≤ 0) → (Q (.inl (some (.ref (a1 + 2)))) (I, J, rf_w r, sh_w N, n)))) :
    mc_WP (mc_en 191 [.ref a0, .ref a1] (I, J, rf_w r, sh_w N, n)) Q := by
  exact (by have g1 := h; have e2 : rf_w r a1 1 = (a1 + 2) := (wd_F (r := r) (N := N) ha1).2.2.1; have s3 : sh_w N (rf_w r a1 1) = (1, 6) := (by rw [e2]; exact (wd_F (r := r) (N := N) ha1).2.2.2.2.1); have k4 : is_P (rf_w r a1 1) := (by rw [e2]; exact (wd_F (r := r) (N := N) ha1).2.2.2.2.2); (try rw [← e2] at g1); exact (mc_WP.run (mc_adjs _) 4 (And.intro ⟨(wd_F (r := r) (N := N) ha1).1, (wd_Z s3)⟩ (And.intro s3 (And.intro (fun c11 => (by have g5 := (g1.1 c11); have e6 : rf_w r a0 0 = (a0 + 1) := (wd_R (r := r) (N := N) ha0).2.1; have s7 : sh_w N (rf_w r a0 0) = (1, 6) := (by rw [e6]; exact (wd_R (r := r) (N := N) ha0).2.2.2.1); have k8 : is_P (rf_w r a0 0) := (by rw [e6]; exact (wd_R (r := r) (N := N) ha0).2.2.2.2.1); (try rw [← e6] at g5); exact (mc_WP.run (mc_adjs _) 3 (And.intro ⟨(wd_R (r := r) (N := N) ha0).1, (wd_Z s7)⟩ g5)))) (fun c11 => (mc_WP.run (mc_adjs _) 3 (And.intro ⟨(wd_F (r := r) (N := N) ha1).1, (wd_Z s3)⟩ (mc_WP.run (mc_adjs _) 1 (g1.2 c11))))))))))
-- 192 allowsOwn(II)Z inl<=6
set_option maxRecDepth 20000 in
theorem bk_192_0 {a0 : Nat} {x1 : Int32} {x2 : Int32} (ha0 : is_R a0)
    (h : vp_in x1 4 ∧ (x2 ≤ 0 →
        (∃ R : mc_Q, mc_WP (mc_en 141 [.ref (a0 + 4 + 4 * x1.toNatClampNeg), .int (I (a0 + 1) 1)] (I, J, rf_w r, sh_w N, n)) R ∧ (∀ v t, R (.inl v) t → mc_WP (192, 24, [.ref a0, .int x1, .int x2], v.toList ++ [], t, (0, 0)) Q) ∧ (∀ k t, R (.inr k) t → Q (.inr k) t))) ∧
        (¬ (x2 ≤ 0) →
        (∃ R : mc_Q, mc_WP (mc_en 141 [.ref (a0 + 4 + 4 * x1.toNatClampNeg), .int x2] (I, J, rf_w r, sh_w N, n)) R ∧ (∀ v t, R (.inl v) t → mc_WP (192, 24, [.ref a0, .int x1, .int x2], v.toList ++ [], t, (0, 0)) Q) ∧ (∀ k t, R (.inr k) t → Q (.inr k) t)))) :
    mc_WP (mc_en 192 [.ref a0, .int x1, .int x2] (I, J, rf_w r, sh_w N, n)) Q := by
  exact (by have g1 := h; have e2 : rf_w r a0 1 = (a0 + 3) := (wd_R (r := r) (N := N) ha0).2.2.1; have s3 : sh_w N (rf_w r a0 1) = (3, 4) := (by rw [e2]; exact (wd_R (r := r) (N := N) ha0).2.2.2.2.2); (try rw [← e2] at g1); have f4 : vp_in x1 4 := g1.1; have e5 : rf_w r (rf_w r a0 1) x1.toNatClampNeg = (a0 + 4 + 4 * x1.toNatClampNeg) := (by rw [e2]; exact (wd_A (r := r) (N := N) ha0 f4).1); have s6 : sh_w N (rf_w r (rf_w r a0 1) x1.toNatClampNeg) = (1, 4) := (by rw [e5]; exact (wd_A (r := r) (N := N) ha0 f4).2.1); have k7 : is_F (rf_w r (rf_w r a0 1) x1.toNatClampNeg) := (by rw [e5]; exact (wd_A (r := r) (N := N) ha0 f4).2.2); (try rw [← e5] at g1); exact (mc_WP.run (mc_adjs _) 6 (And.intro ⟨(wd_R (r := r) (N := N) ha0).1, (wd_Z s3)⟩ (And.intro (wl_la s3 g1.1 (wd_Z s6)) (And.intro (fun c14 => (by have g8 := (g1.2.1 c14); have e9 : rf_w r a0 0 = (a0 + 1) := (wd_R (r := r) (N := N) ha0).2.1; have s10 : sh_w N (rf_w r a0 0) = (1, 6) := (by rw [e9]; exact (wd_R (r := r) (N := N) ha0).2.2.2.1); have k11 : is_P (rf_w r a0 0) := (by rw [e9]; exact (wd_R (r := r) (N := N) ha0).2.2.2.2.1); (try rw [← e9] at g8); exact (mc_WP.run (mc_adjs _) 4 (And.intro ⟨(wd_R (r := r) (N := N) ha0).1, (wd_Z s10)⟩ (And.intro s10 (And.intro s6 (And.intro (by decide) (And.intro (by decide) g8)))))))) (fun c14 => (mc_WP.run (mc_adjs _) 2 (mc_WP.run (mc_adjs _) 1 (And.intro s6 (And.intro (by decide) (And.intro (by decide) (g1.2.2 c14))))))))))))
set_option maxRecDepth 20000 in
theorem bk_192_24 {a0 : Nat} {x1 : Int32} {x2 : Int32} {y0 : Int32} (ha0 : is_R a0)
    (h : (y0 = 0 ∨ y0 = 1) ∧ Q (.inl (some (.int y0))) (I, J, rf_w r, sh_w N, n)) :
    mc_WP (192, 24, [.ref a0, .int x1, .int x2], [.int y0], (I, J, rf_w r, sh_w N, n), (0, 0)) Q := by
  exact (mc_WP.run (mc_adjs _) 1 h)
-- 193 allowsShared(I)Z inl<=6
set_option maxRecDepth 20000 in
theorem bk_193_0 {a0 : Nat} {x1 : Int32} (ha0 : is_R a0)
    (h : mc_WP (193, 2, [.ref a0, .int x1, .int (0 : Int32)], [], (I, J, rf_w r, sh_w N, n), (0, 0)) Q) :
    mc_WP (mc_en 193 [.ref a0, .int x1] (I, J, rf_w r, sh_w N, n)) Q := by
  exact (mc_WP.run (mc_adjs _) 2 h)
set_option maxRecDepth 20000 in
theorem bk_193_2 {a0 : Nat} {x1 : Int32} {x2 : Int32} (ha0 : is_R a0)
    (h : ((I a0 4) ≤ x2 → (Q (.inl (some (.int (1 : Int32)))) (I, J, rf_w r, sh_w N, n))) ∧
        (¬ ((I a0 4) ≤ x2) →
        (vp_in x2 4 ∧ (¬ (I ((a0 + 4 + 4 * x2.toNatClampNeg) + 2) 1) = 0 →
          (mc_WP (193, 2, [.ref a0, .int x1, .int (x2 + (1 : Int32))], [], (I, J, rf_w r, sh_w N, n), (0, 0)) Q)) ∧
          (¬ (¬ (I ((a0 + 4 + 4 * x2.toNatClampNeg) + 2) 1) = 0) →
          (vp_in x2 4 ∧ ∃ R : mc_Q, mc_WP (mc_en 141 [.ref (a0 + 4 + 4 * x2.toNatClampNeg), .int x1] (I, J, rf_w r, sh_w N, n)) R ∧ (∀ v t, R (.inl v) t → mc_WP (193, 35, [.ref a0, .int x1, .int x2], v.toList ++ [], t, (0, 0)) Q) ∧ (∀ k t, R (.inr k) t → Q (.inr k) t)))))) :
    mc_WP (193, 2, [.ref a0, .int x1, .int x2], [], (I, J, rf_w r, sh_w N, n), (0, 0)) Q := by
  exact (mc_WP.run (mc_adjs _) 4 (And.intro (wd_R (r := r) (N := N) ha0).1 (And.intro (fun c16 => (mc_WP.run (mc_adjs _) 2 (And.intro (by decide) (h.1 c16)))) (fun c16 => (by have g3 := (h.2 c16); have e4 : rf_w r a0 1 = (a0 + 3) := (wd_R (r := r) (N := N) ha0).2.2.1; have s5 : sh_w N (rf_w r a0 1) = (3, 4) := (by rw [e4]; exact (wd_R (r := r) (N := N) ha0).2.2.2.2.2); (try rw [← e4] at g3); have f6 : vp_in x2 4 := g3.1; have e7 : rf_w r (rf_w r a0 1) x2.toNatClampNeg = (a0 + 4 + 4 * x2.toNatClampNeg) := (by rw [e4]; exact (wd_A (r := r) (N := N) ha0 f6).1); have s8 : sh_w N (rf_w r (rf_w r a0 1) x2.toNatClampNeg) = (1, 4) := (by rw [e7]; exact (wd_A (r := r) (N := N) ha0 f6).2.1); have k9 : is_F (rf_w r (rf_w r a0 1) x2.toNatClampNeg) := (by rw [e7]; exact (wd_A (r := r) (N := N) ha0 f6).2.2); (try rw [← e7] at g3); have e10 : rf_w r (rf_w r (rf_w r a0 1) x2.toNatClampNeg) 1 = ((rf_w r (rf_w r a0 1) x2.toNatClampNeg) + 2) := (wd_F (r := r) (N := N) k9).2.2.1; have s11 : sh_w N (rf_w r (rf_w r (rf_w r a0 1) x2.toNatClampNeg) 1) = (1, 6) := (by rw [e10]; exact (wd_F (r := r) (N := N) k9).2.2.2.2.1); have k12 : is_P (rf_w r (rf_w r (rf_w r a0 1) x2.toNatClampNeg) 1) := (by rw [e10]; exact (wd_F (r := r) (N := N) k9).2.2.2.2.2); (try rw [← e10] at g3); exact (mc_WP.run (mc_adjs _) 7 (And.intro ⟨(wd_R (r := r) (N := N) ha0).1, (wd_Z s5)⟩ (And.intro (wl_la s5 g3.1 (wd_Z s8)) (And.intro ⟨s8, (wd_Z s11)⟩ (And.intro s11 (And.intro (fun c17 => (mc_WP.run (mc_adjs _) 2 (g3.2.1 c17))) (fun c17 => (by have g14 := (g3.2.2 c17); have f15 : vp_in x2 4 := g14.1; exact (mc_WP.run (mc_adjs _) 6 (And.intro ⟨(wd_R (r := r) (N := N) ha0).1, (wd_Z s5)⟩ (And.intro (wl_la s5 g14.1 (wd_Z s8)) (And.intro s8 (And.intro (by decide) (And.intro (by decide) g14.2)))))))))))))))))))
set_option maxRecDepth 20000 in
theorem bk_193_35 {a0 : Nat} {x1 : Int32} {x2 : Int32} {y0 : Int32} (ha0 : is_R a0)
    (h : (¬ y0 = 0 →
        (mc_WP (193, 2, [.ref a0, .int x1, .int (x2 + (1 : Int32))], [], (I, J, rf_w r, sh_w N, n), (0, 0)) Q)) ∧
        (¬ (¬ y0 = 0) → (Q (.inl (some (.int (0 : Int32)))) (I, J, rf_w r, sh_w N, n)))) :
    mc_WP (193, 35, [.ref a0, .int x1, .int x2], [.int y0], (I, J, rf_w r, sh_w N, n), (0, 0)) Q := by
  exact (mc_WP.run (mc_adjs _) 1 (And.intro (fun c4 => (mc_WP.run (mc_adjs _) 2 (h.1 c4))) (fun c4 => (mc_WP.run (mc_adjs _) 2 (And.intro (by decide) (h.2 c4))))))
-- 194 tell(I)I inl<=6
set_option maxRecDepth 20000 in
theorem bk_194_0 {a0 : Nat} {x1 : Int32} (ha0 : is_R a0)
    (h : (x1.toInt = 2 → (Q (.inl (some (.int (I a0 2)))) (I, J, rf_w r, sh_w N, n))) ∧
        (¬ x1.toInt = 2 → ((x1.toInt = 3 → (Q (.inl (some (.int (I a0 3)))) (I, J, rf_w r, sh_w N, n))) ∧
        (¬ x1.toInt = 3 → ((x1.toInt = 4 → (Q (.inl (some (.int (I (a0 + 1) 1)))) (I, J, rf_w r, sh_w N, n))) ∧
        (¬ x1.toInt = 4 → (Q (.inl (some (.int (0 : Int32)))) (I, J, rf_w r, sh_w N, n)))))))) :
    mc_WP (mc_en 194 [.ref a0, .int x1] (I, J, rf_w r, sh_w N, n)) Q := by
  exact (mc_WP.run (mc_adjs _) 2 (And.intro (fun c9 => (mc_WP.run (mc_adjs _) 3 (And.intro (wd_R (r := r) (N := N) ha0).1 (h.1 c9)))) (fun c9 => (And.intro (fun c10 => (mc_WP.run (mc_adjs _) 3 (And.intro (wd_R (r := r) (N := N) ha0).1 ((h.2 c9).1 c10)))) (fun c10 => (And.intro (fun c11 => (by have g4 := (((h.2 c9).2 c10).1 c11); have e5 : rf_w r a0 0 = (a0 + 1) := (wd_R (r := r) (N := N) ha0).2.1; have s6 : sh_w N (rf_w r a0 0) = (1, 6) := (by rw [e5]; exact (wd_R (r := r) (N := N) ha0).2.2.2.1); have k7 : is_P (rf_w r a0 0) := (by rw [e5]; exact (wd_R (r := r) (N := N) ha0).2.2.2.2.1); (try rw [← e5] at g4); exact (mc_WP.run (mc_adjs _) 4 (And.intro ⟨(wd_R (r := r) (N := N) ha0).1, (wd_Z s6)⟩ (And.intro s6 g4))))) (fun c11 => (mc_WP.run (mc_adjs _) 2 (((h.2 c9).2 c10).2 c11)))))))))
-- 195 begin(I)V inl<=6
set_option maxRecDepth 20000 in
theorem bk_195_0 {a0 : Nat} {x1 : Int32} (ha0 : is_G a0)
    (h : mc_WP (195, 19, [.ref a0, .int x1, .int (0 : Int32)], [], ((mc_up (mc_up I a0 4 ((1 : Int32) <<< (x1 &&& 31))) a0 5 (((mc_up I a0 4 ((1 : Int32) <<< (x1 &&& 31))) a0 4) + (1 : Int32))), J, rf_w r, sh_w N, n), (0, 0)) Q) :
    mc_WP (mc_en 195 [.ref a0, .int x1] (I, J, rf_w r, sh_w N, n)) Q := by
  exact (mc_WP.run (mc_adjs _) 13 (And.intro (wd_G (r := r) (N := N) ha0).1 (And.intro (wd_G (r := r) (N := N) ha0).1 (And.intro (wd_G (r := r) (N := N) ha0).1 h))))
set_option maxRecDepth 20000 in
theorem bk_195_19 {a0 : Nat} {x1 : Int32} {x2 : Int32} (ha0 : is_G a0)
    (h : ((I a0 4) ≤ x2 →
        (Q (.inl none) ((mc_up (mc_up I a0 6 ((I a0 5) + (1 : Int32))) a0 7 (-1 : Int32)), J, rf_w r, sh_w N, n))) ∧
        (¬ ((I a0 4) ≤ x2) →
        (vp_in x2 64 ∧ vp_in x2 64 ∧ vp_in x2 64 ∧ mc_WP (195, 19, [.ref a0, .int x1, .int (x2 + (1 : Int32))], [], ((mc_up (mc_up (mc_up I (a0 + 2) x2.toNatClampNeg x2) (a0 + 3) x2.toNatClampNeg x2) (a0 + 4) x2.toNatClampNeg (1 : Int32)), J, rf_w r, sh_w N, n), (0, 0)) Q))) :
    mc_WP (195, 19, [.ref a0, .int x1, .int x2], [], (I, J, rf_w r, sh_w N, n), (0, 0)) Q := by
  exact (mc_WP.run (mc_adjs _) 4 (And.intro (wd_G (r := r) (N := N) ha0).1 (And.intro (fun c12 => (mc_WP.run (mc_adjs _) 2 (And.intro (wd_G (r := r) (N := N) ha0).1 (And.intro (by decide) (And.intro (by decide) (mc_inl (mc_WP.run (mc_adjs _) 10 (And.intro (wd_G (r := r) (N := N) ha0).1 (And.intro (wd_G (r := r) (N := N) ha0).1 (And.intro (wd_G (r := r) (N := N) ha0).1 (mc_WP.run (mc_adjs _) 1 (h.1 c12)))))))))))) (fun c12 => (by have g5 := (h.2 c12); have e6 : rf_w r a0 1 = (a0 + 2) := (wd_G (r := r) (N := N) ha0).2.2.1; have s7 : sh_w N (rf_w r a0 1) = (2, 64) := (by rw [e6]; exact (wd_G (r := r) (N := N) ha0).2.2.2.2.2.2.1); have ts7 : 10 ≤ rf_w r a0 1 := (by rw [e6]; exact wd_tG ha0 _); (try rw [← e6] at g5); have e8 : rf_w r a0 2 = (a0 + 3) := (wd_G (r := r) (N := N) ha0).2.2.2.1; have s9 : sh_w N (rf_w r a0 2) = (2, 64) := (by rw [e8]; exact (wd_G (r := r) (N := N) ha0).2.2.2.2.2.2.2.1); have ts9 : 10 ≤ rf_w r a0 2 := (by rw [e8]; exact wd_tG ha0 _); (try rw [← e8] at g5); have e10 : rf_w r a0 3 = (a0 + 4) := (wd_G (r := r) (N := N) ha0).2.2.2.2.1; have s11 : sh_w N (rf_w r a0 3) = (2, 64) := (by rw [e10]; exact (wd_G (r := r) (N := N) ha0).2.2.2.2.2.2.2.2); have ts11 : 10 ≤ rf_w r a0 3 := (by rw [e10]; exact wd_tG ha0 _); (try rw [← e10] at g5); exact (mc_WP.run (mc_adjs _) 17 (And.intro ⟨(wd_G (r := r) (N := N) ha0).1, (wd_Z s7)⟩ (And.intro (wl_st s7 g5.1 ts7) (And.intro ⟨(wd_G (r := r) (N := N) ha0).1, (wd_Z s9)⟩ (And.intro (wl_st s9 g5.2.1 ts9) (And.intro ⟨(wd_G (r := r) (N := N) ha0).1, (wd_Z s11)⟩ (And.intro (wl_st s11 g5.2.2.1 ts11) g5.2.2.2))))))))))))
-- 196 refresh()V inl<=6
set_option maxRecDepth 20000 in
theorem bk_196_0 {a0 : Nat} (ha0 : is_G a0)
    (h : Q (.inl none) ((mc_up (mc_up I a0 6 ((I a0 5) + (1 : Int32))) a0 7 (-1 : Int32)), J, rf_w r, sh_w N, n)) :
    mc_WP (mc_en 196 [.ref a0] (I, J, rf_w r, sh_w N, n)) Q := by
  exact (mc_WP.run (mc_adjs _) 10 (And.intro (wd_G (r := r) (N := N) ha0).1 (And.intro (wd_G (r := r) (N := N) ha0).1 (And.intro (wd_G (r := r) (N := N) ha0).1 h))))
-- 197 isFull()Z inl<=6
set_option maxRecDepth 20000 in
theorem bk_197_0 {a0 : Nat} (ha0 : is_G a0)
    (h : ((I a0 6) ≤ (63 : Int32) → (Q (.inl (some (.int (0 : Int32)))) (I, J, rf_w r, sh_w N, n))) ∧
        (¬ ((I a0 6) ≤ (63 : Int32)) → (Q (.inl (some (.int (1 : Int32)))) (I, J, rf_w r, sh_w N, n)))) :
    mc_WP (mc_en 197 [.ref a0] (I, J, rf_w r, sh_w N, n)) Q := by
  exact (mc_WP.run (mc_adjs _) 4 (And.intro (wd_G (r := r) (N := N) ha0).1 (And.intro (fun c5 => (mc_WP.run (mc_adjs _) 2 (And.intro (by decide) (h.1 c5)))) (fun c5 => (mc_WP.run (mc_adjs _) 2 (mc_WP.run (mc_adjs _) 1 (And.intro (by decide) (h.2 c5))))))))
-- 198 makesEntry()Z inl<=6
set_option maxRecDepth 20000 in
theorem bk_198_0 {a0 : Nat} (ha0 : is_G a0)
    (h : ((I a0 7) = (-1 : Int32) → (Q (.inl (some (.int (0 : Int32)))) (I, J, rf_w r, sh_w N, n))) ∧
        (¬ ((I a0 7) = (-1 : Int32)) →
        (((63 : Int32) < (I a0 6) → (Q (.inl (some (.int (0 : Int32)))) (I, J, rf_w r, sh_w N, n))) ∧
          (¬ ((63 : Int32) < (I a0 6)) → (Q (.inl (some (.int (1 : Int32)))) (I, J, rf_w r, sh_w N, n)))))) :
    mc_WP (mc_en 198 [.ref a0] (I, J, rf_w r, sh_w N, n)) Q := by
  exact (mc_WP.run (mc_adjs _) 4 (And.intro (wd_G (r := r) (N := N) ha0).1 (And.intro (fun c7 => (mc_WP.run (mc_adjs _) 2 (And.intro (by decide) (h.1 c7)))) (fun c7 => (mc_WP.run (mc_adjs _) 4 (And.intro (wd_G (r := r) (N := N) ha0).1 (And.intro (fun c8 => (mc_WP.run (mc_adjs _) 2 (And.intro (by decide) ((h.2 c7).1 c8)))) (fun c8 => (mc_WP.run (mc_adjs _) 2 (mc_WP.run (mc_adjs _) 1 (And.intro (by decide) ((h.2 c7).2 c8))))))))))))
-- 199 bits()I inl<=6
set_option maxRecDepth 20000 in
theorem bk_199_0 {a0 : Nat} (ha0 : is_G a0)
    (h : (¬ (I a0 7) = (-1 : Int32) →
        (mc_WP (199, 27, [.ref a0, .int (if (63 : Int32) < (I a0 6) then (63 : Int32) else (I a0 6)), .int (0 : Int32)], [], (I, J, rf_w r, sh_w N, n), (0, 0)) Q)) ∧
        (¬ (¬ (I a0 7) = (-1 : Int32)) →
        (mc_WP (199, 27, [.ref a0, .int (I a0 5), .int (0 : Int32)], [], (I, J, rf_w r, sh_w N, n), (0, 0)) Q))) :
    mc_WP (mc_en 199 [.ref a0] (I, J, rf_w r, sh_w N, n)) Q := by
  exact (mc_WP.run (mc_adjs _) 4 (And.intro (wd_G (r := r) (N := N) ha0).1 (And.intro (fun c5 => (mc_WP.run (mc_adjs _) 7 (And.intro (wd_G (r := r) (N := N) ha0).1 (h.1 c5)))) (fun c5 => (mc_WP.run (mc_adjs _) 3 (And.intro (wd_G (r := r) (N := N) ha0).1 (mc_WP.run (mc_adjs _) 3 (h.2 c5))))))))
set_option maxRecDepth 20000 in
theorem bk_199_27 {a0 : Nat} {x1 : Int32} {x2 : Int32} (ha0 : is_G a0)
    (h : ((6 : Int32) ≤ x2 → (Q (.inl (some (.int x2))) (I, J, rf_w r, sh_w N, n))) ∧
        (¬ ((6 : Int32) ≤ x2) →
        ((x1 < ((1 : Int32) <<< (x2 &&& 31)) → (Q (.inl (some (.int x2))) (I, J, rf_w r, sh_w N, n))) ∧
          (¬ (x1 < ((1 : Int32) <<< (x2 &&& 31))) →
          (mc_WP (199, 27, [.ref a0, .int x1, .int (x2 + (1 : Int32))], [], (I, J, rf_w r, sh_w N, n), (0, 0)) Q))))) :
    mc_WP (199, 27, [.ref a0, .int x1, .int x2], [], (I, J, rf_w r, sh_w N, n), (0, 0)) Q := by
  exact (mc_WP.run (mc_adjs _) 3 (And.intro (fun c6 => (mc_WP.run (mc_adjs _) 2 (h.1 c6))) (fun c6 => (mc_WP.run (mc_adjs _) 5 (And.intro (fun c7 => (mc_WP.run (mc_adjs _) 2 ((h.2 c6).1 c7))) (fun c7 => (mc_WP.run (mc_adjs _) 2 ((h.2 c6).2 c7))))))))
-- 200 allows(I)Z inl<=6
set_option maxRecDepth 20000 in
theorem bk_200_0 {a0 : Nat} {x1 : Int32} (ha0 : is_G a0)
    (h : (x1 < (I a0 4) → (Q (.inl (some (.int (1 : Int32)))) (I, J, rf_w r, sh_w N, n))) ∧
        (¬ (x1 < (I a0 4)) →
        ((x1 ≤ (I a0 5) →
          ((¬ x1 = (I a0 6) → (Q (.inl (some (.int (0 : Int32)))) (I, J, rf_w r, sh_w N, n))) ∧
            (¬ (¬ x1 = (I a0 6)) →
            (((I a0 7) = (-1 : Int32) → (Q (.inl (some (.int (0 : Int32)))) (I, J, rf_w r, sh_w N, n))) ∧
              (¬ ((I a0 7) = (-1 : Int32)) →
              (((63 : Int32) < (I a0 6) → (Q (.inl (some (.int (0 : Int32)))) (I, J, rf_w r, sh_w N, n))) ∧
                (¬ ((63 : Int32) < (I a0 6)) → (Q (.inl (some (.int (1 : Int32)))) (I, J, rf_w r, sh_w N, n))))))))) ∧
          (¬ (x1 ≤ (I a0 5)) →
          ((x1 < (I a0 6) → (Q (.inl (some (.int (1 : Int32)))) (I, J, rf_w r, sh_w N, n))) ∧
            (¬ (x1 < (I a0 6)) →
            ((¬ x1 = (I a0 6) → (Q (.inl (some (.int (0 : Int32)))) (I, J, rf_w r, sh_w N, n))) ∧
              (¬ (¬ x1 = (I a0 6)) →
              (((I a0 7) = (-1 : Int32) → (Q (.inl (some (.int (0 : Int32)))) (I, J, rf_w r, sh_w N, n))) ∧
                (¬ ((I a0 7) = (-1 : Int32)) →
                (((63 : Int32) < (I a0 6) → (Q (.inl (some (.int (0 : Int32)))) (I, J, rf_w r, sh_w N, n))) ∧
                  (¬ ((63 : Int32) < (I a0 6)) → (Q (.inl (some (.int (1 : Int32)))) (I, J, rf_w r, sh_w N, n)))))))))))))) :
    mc_WP (mc_en 200 [.ref a0, .int x1] (I, J, rf_w r, sh_w N, n)) Q := by
  exact (mc_WP.run (mc_adjs _) 4 (And.intro (wd_G (r := r) (N := N) ha0).1 (And.intro (fun c40 => (mc_WP.run (mc_adjs _) 2 (mc_WP.run (mc_adjs _) 1 (And.intro (by decide) (h.1 c40))))) (fun c40 => (mc_WP.run (mc_adjs _) 4 (And.intro (wd_G (r := r) (N := N) ha0).1 (And.intro (fun c41 => (mc_WP.run (mc_adjs _) 4 (And.intro (wd_G (r := r) (N := N) ha0).1 (And.intro (fun c42 => (mc_WP.run (mc_adjs _) 2 (And.intro (by decide) (((h.2 c40).1 c41).1 c42)))) (fun c42 => (mc_WP.run (mc_adjs _) 2 (And.intro (wd_G (r := r) (N := N) ha0).1 (And.intro (by decide) (And.intro (by decide) (mc_inl (mc_WP.run (mc_adjs _) 4 (And.intro (wd_G (r := r) (N := N) ha0).1 (And.intro (fun c43 => (mc_WP.run (mc_adjs _) 2 (And.intro (by decide) (mc_WP.run (mc_adjs _) 1 (And.intro (fun _ => (mc_WP.run (mc_adjs _) 2 (And.intro (by decide) ((((h.2 c40).1 c41).2 c42).1 c43)))) (fun c => absurd (show (0 : Int32) = 0 by decide) c)))))) (fun c43 => (mc_WP.run (mc_adjs _) 4 (And.intro (wd_G (r := r) (N := N) ha0).1 (And.intro (fun c44 => (mc_WP.run (mc_adjs _) 2 (And.intro (by decide) (mc_WP.run (mc_adjs _) 1 (And.intro (fun _ => (mc_WP.run (mc_adjs _) 2 (And.intro (by decide) (((((h.2 c40).1 c41).2 c42).2 c43).1 c44)))) (fun c => absurd (show (0 : Int32) = 0 by decide) c)))))) (fun c44 => (mc_WP.run (mc_adjs _) 2 (mc_WP.run (mc_adjs _) 1 (And.intro (by decide) (mc_WP.run (mc_adjs _) 1 (And.intro (fun c => absurd c (show ¬ ((1 : Int32) = 0) by decide)) (fun _ => (mc_WP.run (mc_adjs _) 2 (mc_WP.run (mc_adjs _) 1 (And.intro (by decide) (((((h.2 c40).1 c41).2 c42).2 c43).2 c44)))))))))))))))))))))))))))) (fun c41 => (mc_WP.run (mc_adjs _) 4 (And.intro (wd_G (r := r) (N := N) ha0).1 (And.intro (fun c45 => (mc_WP.run (mc_adjs _) 2 (mc_WP.run (mc_adjs _) 1 (And.intro (by decide) (((h.2 c40).2 c41).1 c45))))) (fun c45 => (mc_WP.run (mc_adjs _) 4 (And.intro (wd_G (r := r) (N := N) ha0).1 (And.intro (fun c46 => (mc_WP.run (mc_adjs _) 2 (And.intro (by decide) ((((h.2 c40).2 c41).2 c45).1 c46)))) (fun c46 => (mc_WP.run (mc_adjs _) 2 (And.intro (wd_G (r := r) (N := N) ha0).1 (And.intro (by decide) (And.intro (by decide) (mc_inl (mc_WP.run (mc_adjs _) 4 (And.intro (wd_G (r := r) (N := N) ha0).1 (And.intro (fun c47 => (mc_WP.run (mc_adjs _) 2 (And.intro (by decide) (mc_WP.run (mc_adjs _) 1 (And.intro (fun _ => (mc_WP.run (mc_adjs _) 2 (And.intro (by decide) (((((h.2 c40).2 c41).2 c45).2 c46).1 c47)))) (fun c => absurd (show (0 : Int32) = 0 by decide) c)))))) (fun c47 => (mc_WP.run (mc_adjs _) 4 (And.intro (wd_G (r := r) (N := N) ha0).1 (And.intro (fun c48 => (mc_WP.run (mc_adjs _) 2 (And.intro (by decide) (mc_WP.run (mc_adjs _) 1 (And.intro (fun _ => (mc_WP.run (mc_adjs _) 2 (And.intro (by decide) ((((((h.2 c40).2 c41).2 c45).2 c46).2 c47).1 c48)))) (fun c => absurd (show (0 : Int32) = 0 by decide) c)))))) (fun c48 => (mc_WP.run (mc_adjs _) 2 (mc_WP.run (mc_adjs _) 1 (And.intro (by decide) (mc_WP.run (mc_adjs _) 1 (And.intro (fun c => absurd c (show ¬ ((1 : Int32) = 0) by decide)) (fun _ => (mc_WP.run (mc_adjs _) 2 (mc_WP.run (mc_adjs _) 1 (And.intro (by decide) ((((((h.2 c40).2 c41).2 c45).2 c46).2 c47).2 c48)))))))))))))))))))))))))))))))))))))))
-- 201 firstOf(I)I inl<=6
set_option maxRecDepth 20000 in
theorem bk_201_0 {a0 : Nat} {x1 : Int32} (ha0 : is_G a0)
    (h : ((I a0 6) ≤ x1 →
        (vp_in (I a0 7) 64 ∧ Q (.inl (some (.int (I (a0 + 2) (I a0 7).toNatClampNeg)))) (I, J, rf_w r, sh_w N, n))) ∧
        (¬ ((I a0 6) ≤ x1) →
        (vp_in x1 64 ∧ Q (.inl (some (.int (I (a0 + 2) x1.toNatClampNeg)))) (I, J, rf_w r, sh_w N, n)))) :
    mc_WP (mc_en 201 [.ref a0, .int x1] (I, J, rf_w r, sh_w N, n)) Q := by
  exact (mc_WP.run (mc_adjs _) 4 (And.intro (wd_G (r := r) (N := N) ha0).1 (And.intro (fun c9 => (by have g2 := (h.1 c9); have e3 : rf_w r a0 1 = (a0 + 2) := (wd_G (r := r) (N := N) ha0).2.2.1; have s4 : sh_w N (rf_w r a0 1) = (2, 64) := (by rw [e3]; exact (wd_G (r := r) (N := N) ha0).2.2.2.2.2.2.1); have ts4 : 10 ≤ rf_w r a0 1 := (by rw [e3]; exact wd_tG ha0 _); (try rw [← e3] at g2); exact (mc_WP.run (mc_adjs _) 6 (And.intro ⟨(wd_G (r := r) (N := N) ha0).1, (wd_Z s4)⟩ (And.intro (wd_G (r := r) (N := N) ha0).1 (And.intro (wl_ld s4 g2.1) g2.2)))))) (fun c9 => (by have g5 := (h.2 c9); have e6 : rf_w r a0 1 = (a0 + 2) := (wd_G (r := r) (N := N) ha0).2.2.1; have s7 : sh_w N (rf_w r a0 1) = (2, 64) := (by rw [e6]; exact (wd_G (r := r) (N := N) ha0).2.2.2.2.2.2.1); have ts7 : 10 ≤ rf_w r a0 1 := (by rw [e6]; exact wd_tG ha0 _); (try rw [← e6] at g5); exact (mc_WP.run (mc_adjs _) 5 (And.intro ⟨(wd_G (r := r) (N := N) ha0).1, (wd_Z s7)⟩ (And.intro (wl_ld s7 g5.1) (mc_WP.run (mc_adjs _) 1 g5.2)))))))))
-- 202 makeEntry(I)V inl<=1
set_option maxRecDepth 20000 in
theorem bk_202_0 {a0 : Nat} {x1 : Int32} (ha0 : is_G a0)
    (h : ∃ R : mc_Q, mc_WP (mc_en 198 [.ref a0] (I, J, rf_w r, sh_w N, n)) R ∧ (∀ v t, R (.inl v) t → mc_WP (202, 4, [.ref a0, .int x1], v.toList ++ [], t, (0, 0)) Q) ∧ (∀ k t, R (.inr k) t → Q (.inr k) t)) :
    mc_WP (mc_en 202 [.ref a0, .int x1] (I, J, rf_w r, sh_w N, n)) Q := by
  exact (mc_WP.run (mc_adjs _) 2 (And.intro (wd_G (r := r) (N := N) ha0).1 (And.intro (by decide) (And.intro (by decide) h))))
set_option maxRecDepth 20000 in
theorem bk_202_4 {a0 : Nat} {x1 : Int32} {y0 : Int32} (ha0 : is_G a0)
    (h : (y0 = 0 → (Q (.inl none) (I, J, rf_w r, sh_w N, n))) ∧
        (¬ (y0 = 0) →
        (vp_in (I a0 6) 64 ∧ vp_in ((mc_up I (a0 + 1) (I a0 6).toNatClampNeg (I a0 7)) a0 7) 64 ∧ vp_in ((mc_up I (a0 + 1) (I a0 6).toNatClampNeg (I a0 7)) a0 6) 64 ∧ vp_in ((mc_up (mc_up I (a0 + 1) (I a0 6).toNatClampNeg (I a0 7)) (a0 + 2) ((mc_up I (a0 + 1) (I a0 6).toNatClampNeg (I a0 7)) a0 6).toNatClampNeg ((mc_up I (a0 + 1) (I a0 6).toNatClampNeg (I a0 7)) (a0 + 2) ((mc_up I (a0 + 1) (I a0 6).toNatClampNeg (I a0 7)) a0 7).toNatClampNeg)) a0 6) 64 ∧ vp_in ((mc_up (mc_up (mc_up I (a0 + 1) (I a0 6).toNatClampNeg (I a0 7)) (a0 + 2) ((mc_up I (a0 + 1) (I a0 6).toNatClampNeg (I a0 7)) a0 6).toNatClampNeg ((mc_up I (a0 + 1) (I a0 6).toNatClampNeg (I a0 7)) (a0 + 2) ((mc_up I (a0 + 1) (I a0 6).toNatClampNeg (I a0 7)) a0 7).toNatClampNeg)) (a0 + 3) ((mc_up (mc_up I (a0 + 1) (I a0 6).toNatClampNeg (I a0 7)) (a0 + 2) ((mc_up I (a0 + 1) (I a0 6).toNatClampNeg (I a0 7)) a0 6).toNatClampNeg ((mc_up I (a0 + 1) (I a0 6).toNatClampNeg (I a0 7)) (a0 + 2) ((mc_up I (a0 + 1) (I a0 6).toNatClampNeg (I a0 7)) a0 7).toNatClampNeg)) a0 6).toNatClampNeg x1) a0 7) 64 ∧ vp_in ((mc_up (mc_up (mc_up I (a0 + 1) (I a0 6).toNatClampNeg (I a0 7)) (a0 + 2) ((mc_up I (a0 + 1) (I a0 6).toNatClampNeg (I a0 7)) a0 6).toNatClampNeg ((mc_up I (a0 + 1) (I a0 6).toNatClampNeg (I a0 7)) (a0 + 2) ((mc_up I (a0 + 1) (I a0 6).toNatClampNeg (I a0 7)) a0 7).toNatClampNeg)) (a0 + 3) ((mc_up (mc_up I (a0 + 1) (I a0 6).toNatClampNeg (I a0 7)) (a0 + 2) ((mc_up I (a0 + 1) (I a0 6).toNatClampNeg (I a0 7)) a0 6).toNatClampNeg ((mc_up I (a0 + 1) (I a0 6).toNatClampNeg (I a0 7)) (a0 + 2) ((mc_up I (a0 + 1) (I a0 6).toNatClampNeg (I a0 7)) a0 7).toNatClampNeg)) a0 6).toNatClampNeg x1) a0 6) 64 ∧ Q (.inl none) ((mc_up (mc_up (mc_up (mc_up (mc_up I (a0 + 1) (I a0 6).toNatClampNeg (I a0 7)) (a0 + 2) ((mc_up I (a0 + 1) (I a0 6).toNatClampNeg (I a0 7)) a0 6).toNatClampNeg ((mc_up I (a0 + 1) (I a0 6).toNatClampNeg (I a0 7)) (a0 + 2) ((mc_up I (a0 + 1) (I a0 6).toNatClampNeg (I a0 7)) a0 7).toNatClampNeg)) (a0 + 3) ((mc_up (mc_up I (a0 + 1) (I a0 6).toNatClampNeg (I a0 7)) (a0 + 2) ((mc_up I (a0 + 1) (I a0 6).toNatClampNeg (I a0 7)) a0 6).toNatClampNeg ((mc_up I (a0 + 1) (I a0 6).toNatClampNeg (I a0 7)) (a0 + 2) ((mc_up I (a0 + 1) (I a0 6).toNatClampNeg (I a0 7)) a0 7).toNatClampNeg)) a0 6).toNatClampNeg x1) (a0 + 4) ((mc_up (mc_up (mc_up I (a0 + 1) (I a0 6).toNatClampNeg (I a0 7)) (a0 + 2) ((mc_up I (a0 + 1) (I a0 6).toNatClampNeg (I a0 7)) a0 6).toNatClampNeg ((mc_up I (a0 + 1) (I a0 6).toNatClampNeg (I a0 7)) (a0 + 2) ((mc_up I (a0 + 1) (I a0 6).toNatClampNeg (I a0 7)) a0 7).toNatClampNeg)) (a0 + 3) ((mc_up (mc_up I (a0 + 1) (I a0 6).toNatClampNeg (I a0 7)) (a0 + 2) ((mc_up I (a0 + 1) (I a0 6).toNatClampNeg (I a0 7)) a0 6).toNatClampNeg ((mc_up I (a0 + 1) (I a0 6).toNatClampNeg (I a0 7)) (a0 + 2) ((mc_up I (a0 + 1) (I a0 6).toNatClampNeg (I a0 7)) a0 7).toNatClampNeg)) a0 6).toNatClampNeg x1) a0 6).toNatClampNeg (((mc_up (mc_up (mc_up I (a0 + 1) (I a0 6).toNatClampNeg (I a0 7)) (a0 + 2) ((mc_up I (a0 + 1) (I a0 6).toNatClampNeg (I a0 7)) a0 6).toNatClampNeg ((mc_up I (a0 + 1) (I a0 6).toNatClampNeg (I a0 7)) (a0 + 2) ((mc_up I (a0 + 1) (I a0 6).toNatClampNeg (I a0 7)) a0 7).toNatClampNeg)) (a0 + 3) ((mc_up (mc_up I (a0 + 1) (I a0 6).toNatClampNeg (I a0 7)) (a0 + 2) ((mc_up I (a0 + 1) (I a0 6).toNatClampNeg (I a0 7)) a0 6).toNatClampNeg ((mc_up I (a0 + 1) (I a0 6).toNatClampNeg (I a0 7)) (a0 + 2) ((mc_up I (a0 + 1) (I a0 6).toNatClampNeg (I a0 7)) a0 7).toNatClampNeg)) a0 6).toNatClampNeg x1) (a0 + 4) ((mc_up (mc_up (mc_up I (a0 + 1) (I a0 6).toNatClampNeg (I a0 7)) (a0 + 2) ((mc_up I (a0 + 1) (I a0 6).toNatClampNeg (I a0 7)) a0 6).toNatClampNeg ((mc_up I (a0 + 1) (I a0 6).toNatClampNeg (I a0 7)) (a0 + 2) ((mc_up I (a0 + 1) (I a0 6).toNatClampNeg (I a0 7)) a0 7).toNatClampNeg)) (a0 + 3) ((mc_up (mc_up I (a0 + 1) (I a0 6).toNatClampNeg (I a0 7)) (a0 + 2) ((mc_up I (a0 + 1) (I a0 6).toNatClampNeg (I a0 7)) a0 6).toNatClampNeg ((mc_up I (a0 + 1) (I a0 6).toNatClampNeg (I a0 7)) (a0 + 2) ((mc_up I (a0 + 1) (I a0 6).toNatClampNeg (I a0 7)) a0 7).toNatClampNeg)) a0 6).toNatClampNeg x1) a0 7).toNatClampNeg) + (1 : Int32))) a0 6 (((mc_up (mc_up (mc_up (mc_up I (a0 + 1) (I a0 6).toNatClampNeg (I a0 7)) (a0 + 2) ((mc_up I (a0 + 1) (I a0 6).toNatClampNeg (I a0 7)) a0 6).toNatClampNeg ((mc_up I (a0 + 1) (I a0 6).toNatClampNeg (I a0 7)) (a0 + 2) ((mc_up I (a0 + 1) (I a0 6).toNatClampNeg (I a0 7)) a0 7).toNatClampNeg)) (a0 + 3) ((mc_up (mc_up I (a0 + 1) (I a0 6).toNatClampNeg (I a0 7)) (a0 + 2) ((mc_up I (a0 + 1) (I a0 6).toNatClampNeg (I a0 7)) a0 6).toNatClampNeg ((mc_up I (a0 + 1) (I a0 6).toNatClampNeg (I a0 7)) (a0 + 2) ((mc_up I (a0 + 1) (I a0 6).toNatClampNeg (I a0 7)) a0 7).toNatClampNeg)) a0 6).toNatClampNeg x1) (a0 + 4) ((mc_up (mc_up (mc_up I (a0 + 1) (I a0 6).toNatClampNeg (I a0 7)) (a0 + 2) ((mc_up I (a0 + 1) (I a0 6).toNatClampNeg (I a0 7)) a0 6).toNatClampNeg ((mc_up I (a0 + 1) (I a0 6).toNatClampNeg (I a0 7)) (a0 + 2) ((mc_up I (a0 + 1) (I a0 6).toNatClampNeg (I a0 7)) a0 7).toNatClampNeg)) (a0 + 3) ((mc_up (mc_up I (a0 + 1) (I a0 6).toNatClampNeg (I a0 7)) (a0 + 2) ((mc_up I (a0 + 1) (I a0 6).toNatClampNeg (I a0 7)) a0 6).toNatClampNeg ((mc_up I (a0 + 1) (I a0 6).toNatClampNeg (I a0 7)) (a0 + 2) ((mc_up I (a0 + 1) (I a0 6).toNatClampNeg (I a0 7)) a0 7).toNatClampNeg)) a0 6).toNatClampNeg x1) a0 6).toNatClampNeg (((mc_up (mc_up (mc_up I (a0 + 1) (I a0 6).toNatClampNeg (I a0 7)) (a0 + 2) ((mc_up I (a0 + 1) (I a0 6).toNatClampNeg (I a0 7)) a0 6).toNatClampNeg ((mc_up I (a0 + 1) (I a0 6).toNatClampNeg (I a0 7)) (a0 + 2) ((mc_up I (a0 + 1) (I a0 6).toNatClampNeg (I a0 7)) a0 7).toNatClampNeg)) (a0 + 3) ((mc_up (mc_up I (a0 + 1) (I a0 6).toNatClampNeg (I a0 7)) (a0 + 2) ((mc_up I (a0 + 1) (I a0 6).toNatClampNeg (I a0 7)) a0 6).toNatClampNeg ((mc_up I (a0 + 1) (I a0 6).toNatClampNeg (I a0 7)) (a0 + 2) ((mc_up I (a0 + 1) (I a0 6).toNatClampNeg (I a0 7)) a0 7).toNatClampNeg)) a0 6).toNatClampNeg x1) (a0 + 4) ((mc_up (mc_up (mc_up I (a0 + 1) (I a0 6).toNatClampNeg (I a0 7)) (a0 + 2) ((mc_up I (a0 + 1) (I a0 6).toNatClampNeg (I a0 7)) a0 6).toNatClampNeg ((mc_up I (a0 + 1) (I a0 6).toNatClampNeg (I a0 7)) (a0 + 2) ((mc_up I (a0 + 1) (I a0 6).toNatClampNeg (I a0 7)) a0 7).toNatClampNeg)) (a0 + 3) ((mc_up (mc_up I (a0 + 1) (I a0 6).toNatClampNeg (I a0 7)) (a0 + 2) ((mc_up I (a0 + 1) (I a0 6).toNatClampNeg (I a0 7)) a0 6).toNatClampNeg ((mc_up I (a0 + 1) (I a0 6).toNatClampNeg (I a0 7)) (a0 + 2) ((mc_up I (a0 + 1) (I a0 6).toNatClampNeg (I a0 7)) a0 7).toNatClampNeg)) a0 6).toNatClampNeg x1) a0 7).toNatClampNeg) + (1 : Int32))) a0 6) + (1 : Int32))), J, rf_w r, sh_w N, n)))) :
    mc_WP (202, 4, [.ref a0, .int x1], [.int y0], (I, J, rf_w r, sh_w N, n), (0, 0)) Q := by
  exact (mc_WP.run (mc_adjs _) 1 (And.intro (fun c12 => (mc_WP.run (mc_adjs _) 1 (h.1 c12))) (fun c12 => (by have g3 := (h.2 c12); have e4 : rf_w r a0 0 = (a0 + 1) := (wd_G (r := r) (N := N) ha0).2.1; have s5 : sh_w N (rf_w r a0 0) = (2, 64) := (by rw [e4]; exact (wd_G (r := r) (N := N) ha0).2.2.2.2.2.1); have ts5 : 10 ≤ rf_w r a0 0 := (by rw [e4]; exact wd_tG ha0 _); (try rw [← e4] at g3); have e6 : rf_w r a0 1 = (a0 + 2) := (wd_G (r := r) (N := N) ha0).2.2.1; have s7 : sh_w N (rf_w r a0 1) = (2, 64) := (by rw [e6]; exact (wd_G (r := r) (N := N) ha0).2.2.2.2.2.2.1); have ts7 : 10 ≤ rf_w r a0 1 := (by rw [e6]; exact wd_tG ha0 _); (try rw [← e6] at g3); have e8 : rf_w r a0 2 = (a0 + 3) := (wd_G (r := r) (N := N) ha0).2.2.2.1; have s9 : sh_w N (rf_w r a0 2) = (2, 64) := (by rw [e8]; exact (wd_G (r := r) (N := N) ha0).2.2.2.2.2.2.2.1); have ts9 : 10 ≤ rf_w r a0 2 := (by rw [e8]; exact wd_tG ha0 _); (try rw [← e8] at g3); have e10 : rf_w r a0 3 = (a0 + 4) := (wd_G (r := r) (N := N) ha0).2.2.2.2.1; have s11 : sh_w N (rf_w r a0 3) = (2, 64) := (by rw [e10]; exact (wd_G (r := r) (N := N) ha0).2.2.2.2.2.2.2.2); have ts11 : 10 ≤ rf_w r a0 3 := (by rw [e10]; exact wd_tG ha0 _); (try rw [← e10] at g3); exact (mc_WP.run (mc_adjs _) 42 (And.intro ⟨(wd_G (r := r) (N := N) ha0).1, (wd_Z s5)⟩ (And.intro (wd_G (r := r) (N := N) ha0).1 (And.intro (wd_G (r := r) (N := N) ha0).1 (And.intro (wl_st s5 g3.1 ts5) (And.intro ⟨(wd_G (r := r) (N := N) ha0).1, (wd_Z s7)⟩ (And.intro (wd_G (r := r) (N := N) ha0).1 (And.intro ⟨(wd_G (r := r) (N := N) ha0).1, (wd_Z s7)⟩ (And.intro (wd_G (r := r) (N := N) ha0).1 (And.intro (wl_ld s7 g3.2.1) (And.intro (wl_st s7 g3.2.2.1 ts7) (And.intro ⟨(wd_G (r := r) (N := N) ha0).1, (wd_Z s9)⟩ (And.intro (wd_G (r := r) (N := N) ha0).1 (And.intro (wl_st s9 g3.2.2.2.1 ts9) (And.intro ⟨(wd_G (r := r) (N := N) ha0).1, (wd_Z s11)⟩ (And.intro (wd_G (r := r) (N := N) ha0).1 (And.intro ⟨(wd_G (r := r) (N := N) ha0).1, (wd_Z s11)⟩ (And.intro (wd_G (r := r) (N := N) ha0).1 (And.intro (wl_ld s11 g3.2.2.2.2.1) (And.intro (wl_st s11 g3.2.2.2.2.2.1 ts11) (And.intro (wd_G (r := r) (N := N) ha0).1 (And.intro (wd_G (r := r) (N := N) ha0).1 g3.2.2.2.2.2.2))))))))))))))))))))))))))
-- 203 longer(II)I inl<=6
set_option maxRecDepth 20000 in
theorem bk_203_0 {a0 : Nat} {x1 : Int32} {x2 : Int32} (ha0 : is_G a0)
    (h : mc_WP (203, 7, [.ref a0, .int x1, .int x2, .int ((I a0 5) + (1 : Int32))], [], (I, J, rf_w r, sh_w N, n), (0, 0)) Q) :
    mc_WP (mc_en 203 [.ref a0, .int x1, .int x2] (I, J, rf_w r, sh_w N, n)) Q := by
  exact (mc_WP.run (mc_adjs _) 5 (And.intro (wd_G (r := r) (N := N) ha0).1 h))
set_option maxRecDepth 20000 in
theorem bk_203_7 {a0 : Nat} {x1 : Int32} {x2 : Int32} {x3 : Int32} (ha0 : is_G a0)
    (h : ((I a0 6) ≤ x3 →
        (Q (.inl (some (.int (-1 : Int32)))) (I, J, rf_w r, sh_w N, n))) ∧
        (¬ ((I a0 6) ≤ x3) →
        (vp_in x3 64 ∧ (¬ (I (a0 + 1) x3.toNatClampNeg) = x1 →
          (mc_WP (203, 7, [.ref a0, .int x1, .int x2, .int (x3 + (1 : Int32))], [], (I, J, rf_w r, sh_w N, n), (0, 0)) Q)) ∧
          (¬ (¬ (I (a0 + 1) x3.toNatClampNeg) = x1) →
          (vp_in x3 64 ∧ (¬ (I (a0 + 3) x3.toNatClampNeg) = x2 →
            (mc_WP (203, 7, [.ref a0, .int x1, .int x2, .int (x3 + (1 : Int32))], [], (I, J, rf_w r, sh_w N, n), (0, 0)) Q)) ∧
            (¬ (¬ (I (a0 + 3) x3.toNatClampNeg) = x2) → (Q (.inl (some (.int x3))) (I, J, rf_w r, sh_w N, n)))))))) :
    mc_WP (203, 7, [.ref a0, .int x1, .int x2, .int x3], [], (I, J, rf_w r, sh_w N, n), (0, 0)) Q := by
  exact (mc_WP.run (mc_adjs _) 4 (And.intro (wd_G (r := r) (N := N) ha0).1 (And.intro (fun c12 => (mc_WP.run (mc_adjs _) 2 (h.1 c12))) (fun c12 => (by have g3 := (h.2 c12); have e4 : rf_w r a0 0 = (a0 + 1) := (wd_G (r := r) (N := N) ha0).2.1; have s5 : sh_w N (rf_w r a0 0) = (2, 64) := (by rw [e4]; exact (wd_G (r := r) (N := N) ha0).2.2.2.2.2.1); have ts5 : 10 ≤ rf_w r a0 0 := (by rw [e4]; exact wd_tG ha0 _); (try rw [← e4] at g3); exact (mc_WP.run (mc_adjs _) 6 (And.intro ⟨(wd_G (r := r) (N := N) ha0).1, (wd_Z s5)⟩ (And.intro (wl_ld s5 g3.1) (And.intro (fun c13 => (mc_WP.run (mc_adjs _) 2 (g3.2.1 c13))) (fun c13 => (by have g7 := (g3.2.2 c13); have e8 : rf_w r a0 2 = (a0 + 3) := (wd_G (r := r) (N := N) ha0).2.2.2.1; have s9 : sh_w N (rf_w r a0 2) = (2, 64) := (by rw [e8]; exact (wd_G (r := r) (N := N) ha0).2.2.2.2.2.2.2.1); have ts9 : 10 ≤ rf_w r a0 2 := (by rw [e8]; exact wd_tG ha0 _); (try rw [← e8] at g7); exact (mc_WP.run (mc_adjs _) 6 (And.intro ⟨(wd_G (r := r) (N := N) ha0).1, (wd_Z s9)⟩ (And.intro (wl_ld s9 g7.1) (And.intro (fun c14 => (mc_WP.run (mc_adjs _) 2 (g7.2.1 c14))) (fun c14 => (mc_WP.run (mc_adjs _) 2 (g7.2.2 c14))))))))))))))))))
-- 204 cell([II)I inl<=6
set_option maxRecDepth 20000 in
theorem bk_204_0 {a0 : Nat} {a0z : Nat} {x1 : Int32} (ha0 : sh_w N a0 = (2, a0z))
    (h : ((Int32.ofNat (sh_w N a0).2) ≤ x1 → (Q (.inl (some (.int (0 : Int32)))) (I, J, rf_w r, sh_w N, n))) ∧
        (¬ ((Int32.ofNat (sh_w N a0).2) ≤ x1) →
        (vp_in x1 a0z ∧ Q (.inl (some (.int (I a0 x1.toNatClampNeg)))) (I, J, rf_w r, sh_w N, n)))) :
    mc_WP (mc_en 204 [.ref a0, .int x1] (I, J, rf_w r, sh_w N, n)) Q := by
  exact (mc_WP.run (mc_adjs _) 4 (And.intro (wl_len ha0 (by decide) (by decide)) (And.intro (fun c5 => (mc_WP.run (mc_adjs _) 2 (h.1 c5))) (fun c5 => (mc_WP.run (mc_adjs _) 4 (And.intro (wl_ld ha0 (h.2 c5).1) (mc_WP.run (mc_adjs _) 1 (h.2 c5).2)))))))
-- 205 fill([II)V inl<=6
set_option maxRecDepth 20000 in
theorem bk_205_0 {a0 : Nat} {a0z : Nat} {x1 : Int32} (ha0 : sh_w N a0 = (2, a0z))
    (h : mc_WP (205, 5, [.ref a0, .int x1, .int (0 : Int32), .int (Int32.ofNat (sh_w N a0).2)], [], (I, J, rf_w r, sh_w N, n), (0, 0)) Q) :
    mc_WP (mc_en 205 [.ref a0, .int x1] (I, J, rf_w r, sh_w N, n)) Q := by
  exact (mc_WP.run (mc_adjs _) 5 (And.intro (wl_len ha0 (by decide) (by decide)) h))
set_option maxRecDepth 20000 in
theorem bk_205_5 {a0 : Nat} {a0z : Nat} {x1 : Int32} {x2 : Int32} {x3 : Int32} (ha0 : sh_w N a0 = (2, a0z)) (ga0 : 10 ≤ a0)
    (h : (x3 ≤ x2 → (Q (.inl none) (I, J, rf_w r, sh_w N, n))) ∧
        (¬ (x3 ≤ x2) →
        (vp_in x2 a0z ∧ mc_WP (205, 5, [.ref a0, .int x1, .int (x2 + (1 : Int32)), .int x3], [], ((mc_up I a0 x2.toNatClampNeg x1), J, rf_w r, sh_w N, n), (0, 0)) Q))) :
    mc_WP (205, 5, [.ref a0, .int x1, .int x2, .int x3], [], (I, J, rf_w r, sh_w N, n), (0, 0)) Q := by
  exact (mc_WP.run (mc_adjs _) 3 (And.intro (fun c4 => (mc_WP.run (mc_adjs _) 1 (h.1 c4))) (fun c4 => (mc_WP.run (mc_adjs _) 6 (And.intro (wl_st ha0 (h.2 c4).1 ga0) (h.2 c4).2)))))
end
