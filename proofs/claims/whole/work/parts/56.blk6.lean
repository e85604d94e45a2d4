/-! what the code does between its cut points (printed by blocks.py) -/
section
variable {I : Nat → Nat → Int32} {J : Nat → Nat → Int64} {r N n : Nat} {Q : mc_Q}
-- 121 goes(IIII)V inl<=6
set_option maxRecDepth 20000 in
theorem bk_121_0 {x1 : Int32} {x2 : Int32} {x3 : Int32} {x4 : Int32}
    (h : (x1 < 0 → (Q (.inl none) (I, J, rf_w r, sh_w N, n))) ∧
        (¬ (x1 < 0) →
        (((I 85 2) ≤ x1 → (Q (.inl none) (I, J, rf_w r, sh_w N, n))) ∧
          (¬ ((I 85 2) ≤ x1) →
          (((I 85 3) ≤ x2 → (Q (.inl none) (I, J, rf_w r, sh_w N, n))) ∧
            (¬ ((I 85 3) ≤ x2) →
            (vp_in ((((24 : Int32) * x2) + ((3 : Int32) * x1)) + x3) 192 ∧ vp_in ((((24 : Int32) * x2) + ((3 : Int32) * x1)) + x3) 192 ∧ Q (.inl none) ((mc_up I 104 ((((24 : Int32) * x2) + ((3 : Int32) * x1)) + x3).toNatClampNeg ((I 104 ((((24 : Int32) * x2) + ((3 : Int32) * x1)) + x3).toNatClampNeg) + x4)), J, rf_w r, sh_w N, n)))))))) :
    mc_WP (mc_en 121 [.ref 84, .int x1, .int x2, .int x3, .int x4] (I, J, rf_w r, sh_w N, n)) Q := by
  exact (mc_WP.run (mc_adjs _) 2 (And.intro (fun c8 => (mc_WP.run (mc_adjs _) 1 (h.1 c8))) (fun c8 => (mc_WP.run (mc_adjs _) 6 (And.intro ⟨rfl, (show ¬ (85 : Nat) = 0 by decide)⟩ (And.intro (wl_ld rfl (show vp_in (2 : Int32) 45 by unfold vp_in; decide)) (And.intro (fun c9 => (mc_WP.run (mc_adjs _) 1 ((h.2 c8).1 c9))) (fun c9 => (mc_WP.run (mc_adjs _) 6 (And.intro ⟨rfl, (show ¬ (85 : Nat) = 0 by decide)⟩ (And.intro (wl_ld rfl (show vp_in (3 : Int32) 45 by unfold vp_in; decide)) (And.intro (fun c10 => (mc_WP.run (mc_adjs _) 1 (((h.2 c8).2 c9).1 c10))) (fun c10 => (mc_WP.run (mc_adjs _) 17 (And.intro ⟨rfl, (show ¬ (104 : Nat) = 0 by decide)⟩ (And.intro (wl_ld rfl (((h.2 c8).2 c9).2 c10).1) (And.intro (wl_st rfl (((h.2 c8).2 c9).2 c10).2.1 (show 10 ≤ (104 : Nat) by decide)) (((h.2 c8).2 c9).2 c10).2.2)))))))))))))))))
-- 122 byErrors(III)I joins inl<=1
set_option maxRecDepth 20000 in
theorem bk_122_0 {x1 : Int32} {x2 : Int32} {x3 : Int32}
    (h : vp_in (((8 : Int32) * x2) + x1) 64 ∧ vp_in (((24 : Int32) * x2) + ((3 : Int32) * x1)) 192 ∧ ¬ (16 : Int32) = 0 ∧ ∃ R : mc_Q, mc_WP (mc_en 120 [.int ((((I 92 (((8 : Int32) * x2) + x1).toNatClampNeg) >>> (((16 : Int32) - ((8 : Int32) * (0 : Int32))) &&& 31)) &&& (255 : Int32)) + ((I 104 (((24 : Int32) * x2) + ((3 : Int32) * x1)).toNatClampNeg) / (16 : Int32)))] (I, J, rf_w r, sh_w N, n)) R ∧ (∀ v t, R (.inl v) t → mc_WP (122, 39, [.ref 84, .int x1, .int x2, .int x3, .int (I 92 (((8 : Int32) * x2) + x1).toNatClampNeg), .null, .null, .null, .null, .null, .null], v.toList ++ [], t, (0, 0)) Q) ∧ (∀ k t, R (.inr k) t → Q (.inr k) t)) :
    mc_WP (mc_en 122 [.ref 84, .int x1, .int x2, .int x3] (I, J, rf_w r, sh_w N, n)) Q := by
  exact (mc_WP.run (mc_adjs _) 12 (And.intro ⟨rfl, (show ¬ (92 : Nat) = 0 by decide)⟩ (And.intro (wl_ld rfl h.1) (And.intro (by decide) (And.intro (by decide) (mc_inl (mc_WP.run (mc_adjs _) 10 (mc_WP.run (mc_adjs _) 14 (And.intro ⟨rfl, (show ¬ (104 : Nat) = 0 by decide)⟩ (And.intro (wl_ld rfl h.2.1) (And.intro (by decide) (And.intro (by decide) (And.intro (by decide) h.2.2.2)))))))))))))
set_option maxRecDepth 20000 in
theorem bk_122_39 {x1 : Int32} {x2 : Int32} {x3 : Int32} {x4 : Int32} {y0 : Int32}
    (h : vp_in ((((24 : Int32) * x2) + ((3 : Int32) * x1)) + (1 : Int32)) 192 ∧ ¬ (16 : Int32) = 0 ∧ ∃ R : mc_Q, mc_WP (mc_en 120 [.int (((x4 >>> (((16 : Int32) - ((8 : Int32) * (1 : Int32))) &&& 31)) &&& (255 : Int32)) + ((I 104 ((((24 : Int32) * x2) + ((3 : Int32) * x1)) + (1 : Int32)).toNatClampNeg) / (16 : Int32)))] (I, J, rf_w r, sh_w N, n)) R ∧ (∀ v t, R (.inl v) t → mc_WP (122, 69, [.ref 84, .int x1, .int x2, .int x3, .int x4, .int y0, .null, .null, .null, .null, .null], v.toList ++ [], t, (0, 0)) Q) ∧ (∀ k t, R (.inr k) t → Q (.inr k) t)) :
    mc_WP (122, 39, [.ref 84, .int x1, .int x2, .int x3, .int x4, .null, .null, .null, .null, .null, .null], [.int y0], (I, J, rf_w r, sh_w N, n), (0, 0)) Q := by
  exact (mc_WP.run (mc_adjs _) 4 (And.intro (by decide) (And.intro (by decide) (mc_inl (mc_WP.run (mc_adjs _) 10 (mc_WP.run (mc_adjs _) 16 (And.intro ⟨rfl, (show ¬ (104 : Nat) = 0 by decide)⟩ (And.intro (wl_ld rfl h.1) (And.intro (by decide) (And.intro (by decide) (And.intro (by decide) h.2.2)))))))))))
set_option maxRecDepth 20000 in
theorem bk_122_69 {x1 : Int32} {x2 : Int32} {x3 : Int32} {x4 : Int32} {x5 : Int32} {y0 : Int32}
    (h : vp_in ((((24 : Int32) * x2) + ((3 : Int32) * x1)) + (2 : Int32)) 192 ∧ ¬ (16 : Int32) = 0 ∧ ∃ R : mc_Q, mc_WP (mc_en 120 [.int (((x4 >>> (((16 : Int32) - ((8 : Int32) * (2 : Int32))) &&& 31)) &&& (255 : Int32)) + ((I 104 ((((24 : Int32) * x2) + ((3 : Int32) * x1)) + (2 : Int32)).toNatClampNeg) / (16 : Int32)))] (I, J, rf_w r, sh_w N, n)) R ∧ (∀ v t, R (.inl v) t → mc_WP (122, 99, [.ref 84, .int x1, .int x2, .int x3, .int x4, .int x5, .int y0, .null, .null, .null, .null], v.toList ++ [], t, (0, 0)) Q) ∧ (∀ k t, R (.inr k) t → Q (.inr k) t)) :
    mc_WP (122, 69, [.ref 84, .int x1, .int x2, .int x3, .int x4, .int x5, .null, .null, .null, .null, .null], [.int y0], (I, J, rf_w r, sh_w N, n), (0, 0)) Q := by
  exact (mc_WP.run (mc_adjs _) 4 (And.intro (by decide) (And.intro (by decide) (mc_inl (mc_WP.run (mc_adjs _) 10 (mc_WP.run (mc_adjs _) 16 (And.intro ⟨rfl, (show ¬ (104 : Nat) = 0 by decide)⟩ (And.intro (wl_ld rfl h.1) (And.intro (by decide) (And.intro (by decide) (And.intro (by decide) h.2.2)))))))))))
set_option maxRecDepth 20000 in
theorem bk_122_99 {x1 : Int32} {x2 : Int32} {x3 : Int32} {x4 : Int32} {x5 : Int32} {x6 : Int32} {y0 : Int32}
    (h : ∃ R : mc_Q, mc_WP (mc_en 118 [.ref 84, .int x5, .int x6, .int y0] (I, J, rf_w r, sh_w N, n)) R ∧ (∀ v t, R (.inl v) t → mc_WP (122, 111, [.ref 84, .int x1, .int x2, .int x3, .int x4, .int x5, .int x6, .int y0, .null, .null, .null], v.toList ++ [], t, (0, 0)) Q) ∧ (∀ k t, R (.inr k) t → Q (.inr k) t)) :
    mc_WP (122, 99, [.ref 84, .int x1, .int x2, .int x3, .int x4, .int x5, .int x6, .null, .null, .null, .null], [.int y0], (I, J, rf_w r, sh_w N, n), (0, 0)) Q := by
  exact (mc_WP.run (mc_adjs _) 6 (And.intro rfl (And.intro (by decide) (And.intro (by decide) h))))
set_option maxRecDepth 20000 in
theorem bk_122_111 {x1 : Int32} {x2 : Int32} {x3 : Int32} {x4 : Int32} {x5 : Int32} {x6 : Int32} {x7 : Int32} {y0 : Int32}
    (h : mc_WP (122, 116, [.ref 84, .int x1, .int x2, .int x3, .int x4, .int x5, .int x6, .int x7, .int y0, .int (0 : Int32), .null], [], (I, J, rf_w r, sh_w N, n), (0, 0)) Q) :
    mc_WP (122, 111, [.ref 84, .int x1, .int x2, .int x3, .int x4, .int x5, .int x6, .int x7, .null, .null, .null], [.int y0], (I, J, rf_w r, sh_w N, n), (0, 0)) Q := by
  exact (mc_WP.run (mc_adjs _) 3 h)
set_option maxRecDepth 20000 in
theorem bk_122_116 {x1 : Int32} {x2 : Int32} {x3 : Int32} {x4 : Int32} {x5 : Int32} {x6 : Int32} {x7 : Int32} {x8 : Int32} {x9 : Int32} {x10 : Value}
    (h : ((3 : Int32) ≤ x9 → (Q (.inl (some (.int x8))) (I, J, rf_w r, sh_w N, n))) ∧
        (¬ ((3 : Int32) ≤ x9) →
        ((¬ x9 = 0 →
          ((¬ x9 = (1 : Int32) →
            (mc_WP (122, 145, [.ref 84, .int x1, .int x2, .int x3, .int x4, .int x5, .int x6, .int x7, .int x8, .int x9, x10], [.int x7], (I, J, rf_w r, sh_w N, n), (0, 0)) Q)) ∧
            (¬ (¬ x9 = (1 : Int32)) →
            (mc_WP (122, 145, [.ref 84, .int x1, .int x2, .int x3, .int x4, .int x5, .int x6, .int x7, .int x8, .int x9, x10], [.int x6], (I, J, rf_w r, sh_w N, n), (0, 0)) Q)))) ∧
          (¬ (¬ x9 = 0) →
          (mc_WP (122, 145, [.ref 84, .int x1, .int x2, .int x3, .int x4, .int x5, .int x6, .int x7, .int x8, .int x9, x10], [.int x5], (I, J, rf_w r, sh_w N, n), (0, 0)) Q))))) :
    mc_WP (122, 116, [.ref 84, .int x1, .int x2, .int x3, .int x4, .int x5, .int x6, .int x7, .int x8, .int x9, x10], [], (I, J, rf_w r, sh_w N, n), (0, 0)) Q := by
  exact (mc_WP.run (mc_adjs _) 3 (And.intro (fun c8 => (mc_WP.run (mc_adjs _) 2 (h.1 c8))) (fun c8 => (mc_WP.run (mc_adjs _) 2 (And.intro (fun c9 => (mc_WP.run (mc_adjs _) 3 (And.intro (fun c10 => (mc_WP.run (mc_adjs _) 1 (((h.2 c8).1 c9).1 c10))) (fun c10 => (mc_WP.run (mc_adjs _) 2 (((h.2 c8).1 c9).2 c10)))))) (fun c9 => (mc_WP.run (mc_adjs _) 2 ((h.2 c8).2 c9))))))))
set_option maxRecDepth 20000 in
theorem bk_122_145 {x1 : Int32} {x2 : Int32} {x3 : Int32} {x4 : Int32} {x5 : Int32} {x6 : Int32} {x7 : Int32} {x8 : Int32} {x9 : Int32} {x10 : Value} {y0 : Int32}
    (h : vp_in x8 16 ∧ ∃ R : mc_Q, mc_WP (mc_en 121 [.ref 84, .int (x1 + x3), .int x2, .int x9, .int ((7 : Int32) * (y0 - (((I 103 x8.toNatClampNeg) >>> (((16 : Int32) - ((8 : Int32) * x9)) &&& 31)) &&& (255 : Int32))))] (I, J, rf_w r, sh_w N, n)) R ∧ (∀ v t, R (.inl v) t → mc_WP (122, 175, [.ref 84, .int x1, .int x2, .int x3, .int x4, .int x5, .int x6, .int x7, .int x8, .int x9, .int (y0 - (((I 103 x8.toNatClampNeg) >>> (((16 : Int32) - ((8 : Int32) * x9)) &&& 31)) &&& (255 : Int32)))], v.toList ++ [], t, (0, 0)) Q) ∧ (∀ k t, R (.inr k) t → Q (.inr k) t)) :
    mc_WP (122, 145, [.ref 84, .int x1, .int x2, .int x3, .int x4, .int x5, .int x6, .int x7, .int x8, .int x9, x10], [.int y0], (I, J, rf_w r, sh_w N, n), (0, 0)) Q := by
  exact (mc_WP.run (mc_adjs _) 6 (And.intro ⟨rfl, (show ¬ (103 : Nat) = 0 by decide)⟩ (And.intro (wl_ld rfl h.1) (And.intro (by decide) (And.intro (by decide) (mc_inl (mc_WP.run (mc_adjs _) 10 (mc_WP.run (mc_adjs _) 12 (And.intro rfl (And.intro (by decide) (And.intro (by decide) h.2)))))))))))
set_option maxRecDepth 20000 in
theorem bk_122_175 {x1 : Int32} {x2 : Int32} {x3 : Int32} {x4 : Int32} {x5 : Int32} {x6 : Int32} {x7 : Int32} {x8 : Int32} {x9 : Int32} {x10 : Int32}
    (h : ∃ R : mc_Q, mc_WP (mc_en 121 [.ref 84, .int (x1 - x3), .int (x2 + (1 : Int32)), .int x9, .int ((3 : Int32) * x10)] (I, J, rf_w r, sh_w N, n)) R ∧ (∀ v t, R (.inl v) t → mc_WP (122, 191, [.ref 84, .int x1, .int x2, .int x3, .int x4, .int x5, .int x6, .int x7, .int x8, .int x9, .int x10], v.toList ++ [], t, (0, 0)) Q) ∧ (∀ k t, R (.inr k) t → Q (.inr k) t)) :
    mc_WP (122, 175, [.ref 84, .int x1, .int x2, .int x3, .int x4, .int x5, .int x6, .int x7, .int x8, .int x9, .int x10], [], (I, J, rf_w r, sh_w N, n), (0, 0)) Q := by
  exact (mc_WP.run (mc_adjs _) 12 (And.intro rfl (And.intro (by decide) (And.intro (by decide) h))))
set_option maxRecDepth 20000 in
theorem bk_122_191 {x1 : Int32} {x2 : Int32} {x3 : Int32} {x4 : Int32} {x5 : Int32} {x6 : Int32} {x7 : Int32} {x8 : Int32} {x9 : Int32} {x10 : Int32}
    (h : ∃ R : mc_Q, mc_WP (mc_en 121 [.ref 84, .int x1, .int (x2 + (1 : Int32)), .int x9, .int ((5 : Int32) * x10)] (I, J, rf_w r, sh_w N, n)) R ∧ (∀ v t, R (.inl v) t → mc_WP (122, 205, [.ref 84, .int x1, .int x2, .int x3, .int x4, .int x5, .int x6, .int x7, .int x8, .int x9, .int x10], v.toList ++ [], t, (0, 0)) Q) ∧ (∀ k t, R (.inr k) t → Q (.inr k) t)) :
    mc_WP (122, 191, [.ref 84, .int x1, .int x2, .int x3, .int x4, .int x5, .int x6, .int x7, .int x8, .int x9, .int x10], [], (I, J, rf_w r, sh_w N, n), (0, 0)) Q := by
  exact (mc_WP.run (mc_adjs _) 10 (And.intro rfl (And.intro (by decide) (And.intro (by decide) h))))
set_option maxRecDepth 20000 in
theorem bk_122_205 {x1 : Int32} {x2 : Int32} {x3 : Int32} {x4 : Int32} {x5 : Int32} {x6 : Int32} {x7 : Int32} {x8 : Int32} {x9 : Int32} {x10 : Int32}
    (h : ∃ R : mc_Q, mc_WP (mc_en 121 [.ref 84, .int (x1 + x3), .int (x2 + (1 : Int32)), .int x9, .int x10] (I, J, rf_w r, sh_w N, n)) R ∧ (∀ v t, R (.inl v) t → mc_WP (122, 219, [.ref 84, .int x1, .int x2, .int x3, .int x4, .int x5, .int x6, .int x7, .int x8, .int x9, .int x10], v.toList ++ [], t, (0, 0)) Q) ∧ (∀ k t, R (.inr k) t → Q (.inr k) t)) :
    mc_WP (122, 205, [.ref 84, .int x1, .int x2, .int x3, .int x4, .int x5, .int x6, .int x7, .int x8, .int x9, .int x10], [], (I, J, rf_w r, sh_w N, n), (0, 0)) Q := by
  exact (mc_WP.run (mc_adjs _) 10 (And.intro rfl (And.intro (by decide) (And.intro (by decide) h))))
set_option maxRecDepth 20000 in
theorem bk_122_219 {x1 : Int32} {x2 : Int32} {x3 : Int32} {x4 : Int32} {x5 : Int32} {x6 : Int32} {x7 : Int32} {x8 : Int32} {x9 : Int32} {x10 : Int32}
    (h : mc_WP (122, 116, [.ref 84, .int x1, .int x2, .int x3, .int x4, .int x5, .int x6, .int x7, .int x8, .int (x9 + (1 : Int32)), .int x10], [], (I, J, rf_w r, sh_w N, n), (0, 0)) Q) :
    mc_WP (122, 219, [.ref 84, .int x1, .int x2, .int x3, .int x4, .int x5, .int x6, .int x7, .int x8, .int x9, .int x10], [], (I, J, rf_w r, sh_w N, n), (0, 0)) Q := by
  exact (mc_WP.run (mc_adjs _) 2 h)
-- 123 number(IIII)I joins inl<=1
set_option maxRecDepth 20000 in
theorem bk_123_0 {x1 : Int32} {x2 : Int32} {x3 : Int32} {x4 : Int32}
    (h : vp_in (((8 : Int32) * x2) + x1) 64 ∧ ∃ R : mc_Q, mc_WP (mc_en 119 [.ref 84, .int (I 92 (((8 : Int32) * x2) + x1).toNatClampNeg)] (I, J, rf_w r, sh_w N, n)) R ∧ (∀ v t, R (.inl v) t → mc_WP (123, 19, [.ref 84, .int x1, .int x2, .int x3, .int x4, .int (I 92 (((8 : Int32) * x2) + x1).toNatClampNeg), .null, .null], v.toList ++ [], t, (0, 0)) Q) ∧ (∀ k t, R (.inr k) t → Q (.inr k) t)) :
    mc_WP (mc_en 123 [.ref 84, .int x1, .int x2, .int x3, .int x4] (I, J, rf_w r, sh_w N, n)) Q := by
  exact (mc_WP.run (mc_adjs _) 12 (And.intro ⟨rfl, (show ¬ (92 : Nat) = 0 by decide)⟩ (And.intro (wl_ld rfl h.1) (And.intro rfl (And.intro (by decide) (And.intro (by decide) h.2))))))
set_option maxRecDepth 20000 in
theorem bk_123_19 {x1 : Int32} {x2 : Int32} {x3 : Int32} {x4 : Int32} {x5 : Int32} {y0 : Int32}
    (h : (y0 < 0 →
        ((¬ x3 = (2 : Int32) →
          ((¬ x3 = 0 →
            (¬ (2 : Int32) = 0 ∧ (¬ (x1 - x1 / (2 : Int32) * (2 : Int32)) = 0 →
              (¬ (2 : Int32) = 0 ∧ (¬ (x2 - x2 / (2 : Int32) * (2 : Int32)) = 0 →
                (mc_WP (123, 86, [.ref 84, .int x1, .int x2, .int x3, .int x4, .int x5, .int y0, .null], [.int (-8 : Int32)], (I, J, rf_w r, sh_w N, n), (0, 0)) Q)) ∧
                (¬ (¬ (x2 - x2 / (2 : Int32) * (2 : Int32)) = 0) →
                (mc_WP (123, 86, [.ref 84, .int x1, .int x2, .int x3, .int x4, .int x5, .int y0, .null], [.int (8 : Int32)], (I, J, rf_w r, sh_w N, n), (0, 0)) Q)))) ∧
              (¬ (¬ (x1 - x1 / (2 : Int32) * (2 : Int32)) = 0) →
              (¬ (2 : Int32) = 0 ∧ (¬ (x2 - x2 / (2 : Int32) * (2 : Int32)) = 0 →
                (mc_WP (123, 86, [.ref 84, .int x1, .int x2, .int x3, .int x4, .int x5, .int y0, .null], [.int (24 : Int32)], (I, J, rf_w r, sh_w N, n), (0, 0)) Q)) ∧
                (¬ (¬ (x2 - x2 / (2 : Int32) * (2 : Int32)) = 0) →
                (mc_WP (123, 86, [.ref 84, .int x1, .int x2, .int x3, .int x4, .int x5, .int y0, .null], [.int (-24 : Int32)], (I, J, rf_w r, sh_w N, n), (0, 0)) Q)))))) ∧
            (¬ (¬ x3 = 0) →
            (mc_WP (123, 86, [.ref 84, .int x1, .int x2, .int x3, .int x4, .int x5, .int y0, .null], [.int (0 : Int32)], (I, J, rf_w r, sh_w N, n), (0, 0)) Q)))) ∧
          (¬ (¬ x3 = (2 : Int32)) →
          (∃ R : mc_Q, mc_WP (mc_en 122 [.ref 84, .int x1, .int x2, .int x4] (I, J, rf_w r, sh_w N, n)) R ∧ (∀ v t, R (.inl v) t → mc_WP (123, 42, [.ref 84, .int x1, .int x2, .int x3, .int x4, .int x5, .int y0, .null], v.toList ++ [], t, (0, 0)) Q) ∧ (∀ k t, R (.inr k) t → Q (.inr k) t))))) ∧
        (¬ (y0 < 0) → (Q (.inl (some (.int y0))) (I, J, rf_w r, sh_w N, n)))) :
    mc_WP (123, 19, [.ref 84, .int x1, .int x2, .int x3, .int x4, .int x5, .null, .null], [.int y0], (I, J, rf_w r, sh_w N, n), (0, 0)) Q := by
  exact (mc_WP.run (mc_adjs _) 3 (And.intro (fun c14 => (mc_WP.run (mc_adjs _) 3 (And.intro (fun c15 => (mc_WP.run (mc_adjs _) 2 (And.intro (fun c16 => (mc_WP.run (mc_adjs _) 4 (And.intro (by decide) (And.intro (fun c17 => (mc_WP.run (mc_adjs _) 4 (And.intro (by decide) (And.intro (fun c18 => (mc_WP.run (mc_adjs _) 1 (((((h.1 c14).1 c15).1 c16).2.1 c17).2.1 c18))) (fun c18 => (mc_WP.run (mc_adjs _) 2 (((((h.1 c14).1 c15).1 c16).2.1 c17).2.2 c18))))))) (fun c17 => (mc_WP.run (mc_adjs _) 4 (And.intro (by decide) (And.intro (fun c19 => (mc_WP.run (mc_adjs _) 2 (((((h.1 c14).1 c15).1 c16).2.2 c17).2.1 c19))) (fun c19 => (mc_WP.run (mc_adjs _) 2 (((((h.1 c14).1 c15).1 c16).2.2 c17).2.2 c19))))))))))) (fun c16 => (mc_WP.run (mc_adjs _) 2 (((h.1 c14).1 c15).2 c16)))))) (fun c15 => (mc_WP.run (mc_adjs _) 5 (And.intro rfl (And.intro (by decide) (And.intro (by decide) ((h.1 c14).2 c15))))))))) (fun c14 => (mc_WP.run (mc_adjs _) 2 (h.2 c14)))))
set_option maxRecDepth 20000 in
theorem bk_123_42 {x1 : Int32} {x2 : Int32} {x3 : Int32} {x4 : Int32} {x5 : Int32} {x6 : Int32} {y0 : Int32}
    (h : Q (.inl (some (.int y0))) (I, J, rf_w r, sh_w N, n)) :
    mc_WP (123, 42, [.ref 84, .int x1, .int x2, .int x3, .int x4, .int x5, .int x6, .null], [.int y0], (I, J, rf_w r, sh_w N, n), (0, 0)) Q := by
  exact (mc_WP.run (mc_adjs _) 1 h)
set_option maxRecDepth 20000 in
theorem bk_123_86 {x1 : Int32} {x2 : Int32} {x3 : Int32} {x4 : Int32} {x5 : Int32} {x6 : Int32} {y0 : Int32}
    (h : ∃ R : mc_Q, mc_WP (mc_en 120 [.int (((x5 >>> (((16 : Int32) - ((8 : Int32) * (0 : Int32))) &&& 31)) &&& (255 : Int32)) + y0)] (I, J, rf_w r, sh_w N, n)) R ∧ (∀ v t, R (.inl v) t → mc_WP (123, 101, [.ref 84, .int x1, .int x2, .int x3, .int x4, .int x5, .int x6, .int y0], v.toList ++ [.ref 84], t, (0, 0)) Q) ∧ (∀ k t, R (.inr k) t → Q (.inr k) t)) :
    mc_WP (123, 86, [.ref 84, .int x1, .int x2, .int x3, .int x4, .int x5, .int x6, .null], [.int y0], (I, J, rf_w r, sh_w N, n), (0, 0)) Q := by
  exact (mc_WP.run (mc_adjs _) 5 (And.intro (by decide) (And.intro (by decide) (mc_inl (mc_WP.run (mc_adjs _) 10 (mc_WP.run (mc_adjs _) 3 (And.intro (by decide) (And.intro (by decide) h))))))))
set_option maxRecDepth 20000 in
theorem bk_123_101 {x1 : Int32} {x2 : Int32} {x3 : Int32} {x4 : Int32} {x5 : Int32} {x6 : Int32} {x7 : Int32} {y1 : Int32}
    (h : ∃ R : mc_Q, mc_WP (mc_en 120 [.int (((x5 >>> (((16 : Int32) - ((8 : Int32) * (1 : Int32))) &&& 31)) &&& (255 : Int32)) + x7)] (I, J, rf_w r, sh_w N, n)) R ∧ (∀ v t, R (.inl v) t → mc_WP (123, 113, [.ref 84, .int x1, .int x2, .int x3, .int x4, .int x5, .int x6, .int x7], v.toList ++ [.int y1, .ref 84], t, (0, 0)) Q) ∧ (∀ k t, R (.inr k) t → Q (.inr k) t)) :
    mc_WP (123, 101, [.ref 84, .int x1, .int x2, .int x3, .int x4, .int x5, .int x6, .int x7], [.int y1, .ref 84], (I, J, rf_w r, sh_w N, n), (0, 0)) Q := by
  exact (mc_WP.run (mc_adjs _) 3 (And.intro (by decide) (And.intro (by decide) (mc_inl (mc_WP.run (mc_adjs _) 10 (mc_WP.run (mc_adjs _) 3 (And.intro (by decide) (And.intro (by decide) h))))))))
set_option maxRecDepth 20000 in
theorem bk_123_113 {x1 : Int32} {x2 : Int32} {x3 : Int32} {x4 : Int32} {x5 : Int32} {x6 : Int32} {x7 : Int32} {y1 : Int32} {y2 : Int32}
    (h : ∃ R : mc_Q, mc_WP (mc_en 120 [.int (((x5 >>> (((16 : Int32) - ((8 : Int32) * (2 : Int32))) &&& 31)) &&& (255 : Int32)) + x7)] (I, J, rf_w r, sh_w N, n)) R ∧ (∀ v t, R (.inl v) t → mc_WP (123, 125, [.ref 84, .int x1, .int x2, .int x3, .int x4, .int x5, .int x6, .int x7], v.toList ++ [.int y2, .int y1, .ref 84], t, (0, 0)) Q) ∧ (∀ k t, R (.inr k) t → Q (.inr k) t)) :
    mc_WP (123, 113, [.ref 84, .int x1, .int x2, .int x3, .int x4, .int x5, .int x6, .int x7], [.int y2, .int y1, .ref 84], (I, J, rf_w r, sh_w N, n), (0, 0)) Q := by
  exact (mc_WP.run (mc_adjs _) 3 (And.intro (by decide) (And.intro (by decide) (mc_inl (mc_WP.run (mc_adjs _) 10 (mc_WP.run (mc_adjs _) 3 (And.intro (by decide) (And.intro (by decide) h))))))))
set_option maxRecDepth 20000 in
theorem bk_123_125 {x1 : Int32} {x2 : Int32} {x3 : Int32} {x4 : Int32} {x5 : Int32} {x6 : Int32} {x7 : Int32} {y1 : Int32} {y2 : Int32} {y3 : Int32}
    (h : ∃ R : mc_Q, mc_WP (mc_en 118 [.ref 84, .int y1, .int y2, .int y3] (I, J, rf_w r, sh_w N, n)) R ∧ (∀ v t, R (.inl v) t → mc_WP (123, 128, [.ref 84, .int x1, .int x2, .int x3, .int x4, .int x5, .int x6, .int x7], v.toList ++ [], t, (0, 0)) Q) ∧ (∀ k t, R (.inr k) t → Q (.inr k) t)) :
    mc_WP (123, 125, [.ref 84, .int x1, .int x2, .int x3, .int x4, .int x5, .int x6, .int x7], [.int y3, .int y2, .int y1, .ref 84], (I, J, rf_w r, sh_w N, n), (0, 0)) Q := by
  exact (mc_WP.run (mc_adjs _) 1 (And.intro rfl (And.intro (by decide) (And.intro (by decide) h))))
set_option maxRecDepth 20000 in
theorem bk_123_128 {x1 : Int32} {x2 : Int32} {x3 : Int32} {x4 : Int32} {x5 : Int32} {x6 : Int32} {x7 : Int32} {y0 : Int32}
    (h : Q (.inl (some (.int y0))) (I, J, rf_w r, sh_w N, n)) :
    mc_WP (123, 128, [.ref 84, .int x1, .int x2, .int x3, .int x4, .int x5, .int x6, .int x7], [.int y0], (I, J, rf_w r, sh_w N, n), (0, 0)) Q := by
  exact (mc_WP.run (mc_adjs _) 1 h)
-- 124 reduce(II)I inl<=1
set_option maxRecDepth 20000 in
theorem bk_124_0 {x1 : Int32} {x2 : Int32}
    (h : ∃ R : mc_Q, mc_WP (mc_en 57 [.int x1, .int (1 : Int32), .int (16 : Int32)] (I, J, rf_w r, sh_w N, n)) R ∧ (∀ v t, R (.inl v) t → mc_WP (124, 8, [.ref 84, .int x1, .int x2, .null, .null, .null, .null, .null, .null, .null], v.toList ++ [.ref 84], t, (0, 0)) Q) ∧ (∀ k t, R (.inr k) t → Q (.inr k) t)) :
    mc_WP (mc_en 124 [.ref 84, .int x1, .int x2] (I, J, rf_w r, sh_w N, n)) Q := by
  exact (mc_WP.run (mc_adjs _) 5 (And.intro (by decide) (And.intro (by decide) h)))
set_option maxRecDepth 20000 in
theorem bk_124_8 {x1 : Int32} {x2 : Int32} {y1 : Int32}
    (h : (¬ y1 = 0 →
        (Q (.inl (some (.int (0 : Int32)))) ((mc_up I 84 0 (1 : Int32)), J, rf_w r, sh_w N, n))) ∧
        (¬ (¬ y1 = 0) →
        (∃ R : mc_Q, mc_WP (mc_en 57 [.int x2, .int (0 : Int32), .int (2 : Int32)] (I, J, rf_w r, sh_w N, n)) R ∧ (∀ v t, R (.inl v) t → mc_WP (124, 17, [.ref 84, .int x1, .int x2, .null, .null, .null, .null, .null, .null, .null], v.toList ++ [.ref 84], t, (0, 0)) Q) ∧ (∀ k t, R (.inr k) t → Q (.inr k) t)))) :
    mc_WP (124, 8, [.ref 84, .int x1, .int x2, .null, .null, .null, .null, .null, .null, .null], [.int y1, .ref 84], (I, J, rf_w r, sh_w N, n), (0, 0)) Q := by
  exact (mc_WP.run (mc_adjs _) 1 (And.intro (fun c6 => (mc_WP.run (mc_adjs _) 2 (mc_WP.run (mc_adjs _) 4 (And.intro rfl (And.intro rfl (And.intro (fun c => absurd c (show ¬ ((1 : Int32) ≤ 0) by decide)) (fun _ => (mc_WP.run (mc_adjs _) 2 (h.1 c6))))))))) (fun c6 => (mc_WP.run (mc_adjs _) 4 (And.intro (by decide) (And.intro (by decide) (h.2 c6)))))))
set_option maxRecDepth 20000 in
theorem bk_124_17 {x1 : Int32} {x2 : Int32} {y1 : Int32}
    (h : (y1 = 0 →
        ((¬ (I 84 1) = (4 : Int32) →
          (∃ R : mc_Q, mc_WP (mc_en 113 [.ref 84] ((mc_up I 84 0 (0 : Int32)), J, rf_w r, sh_w N, n)) R ∧ (∀ v t, R (.inl v) t → mc_WP (124, 53, [.ref 84, .int x1, .int x2, .null, .null, .null, .null, .null, .null, .null], v.toList ++ [], t, (0, 0)) Q) ∧ (∀ k t, R (.inr k) t → Q (.inr k) t))) ∧
          (¬ (¬ (I 84 1) = (4 : Int32)) →
          (Q (.inl (some (.int (0 : Int32)))) ((mc_up I 84 0 (2 : Int32)), J, rf_w r, sh_w N, n))))) ∧
        (¬ (y1 = 0) →
        (Q (.inl (some (.int (0 : Int32)))) ((mc_up I 84 0 (1 : Int32)), J, rf_w r, sh_w N, n)))) :
    mc_WP (124, 17, [.ref 84, .int x1, .int x2, .null, .null, .null, .null, .null, .null, .null], [.int y1, .ref 84], (I, J, rf_w r, sh_w N, n), (0, 0)) Q := by
  exact (mc_WP.run (mc_adjs _) 1 (And.intro (fun c11 => (mc_WP.run (mc_adjs _) 4 (And.intro rfl (And.intro (fun c12 => (mc_WP.run (mc_adjs _) 5 (And.intro rfl (And.intro rfl (And.intro (fun _ => (mc_WP.run (mc_adjs _) 2 (And.intro rfl (And.intro (by decide) (And.intro (by decide) ((h.1 c11).1 c12)))))) (fun c => absurd (show (0 : Int32) ≤ 0 by decide) c)))))) (fun c12 => (mc_WP.run (mc_adjs _) 2 (mc_WP.run (mc_adjs _) 4 (And.intro rfl (And.intro rfl (And.intro (fun c => absurd c (show ¬ ((2 : Int32) ≤ 0) by decide)) (fun _ => (mc_WP.run (mc_adjs _) 2 ((h.1 c11).2 c12))))))))))))) (fun c11 => (mc_WP.run (mc_adjs _) 2 (mc_WP.run (mc_adjs _) 4 (And.intro rfl (And.intro rfl (And.intro (fun c => absurd c (show ¬ ((1 : Int32) ≤ 0) by decide)) (fun _ => (mc_WP.run (mc_adjs _) 2 (h.2 c11)))))))))))
set_option maxRecDepth 20000 in
theorem bk_124_53 {x1 : Int32} {x2 : Int32}
    (h : mc_WP (124, 60, [.ref 84, .int x1, .int x2, .int (1 : Int32), .null, .null, .null, .null, .null, .null], [], ((mc_up I 84 32 (1 : Int32)), J, rf_w r, sh_w N, n), (0, 0)) Q) :
    mc_WP (124, 53, [.ref 84, .int x1, .int x2, .null, .null, .null, .null, .null, .null, .null], [], (I, J, rf_w r, sh_w N, n), (0, 0)) Q := by
  exact (mc_WP.run (mc_adjs _) 5 (And.intro rfl h))
set_option maxRecDepth 20000 in
theorem bk_124_60 {x1 : Int32} {x2 : Int32} {x3 : Int32}
    (h : (x1 ≤ (I 84 32) →
        (mc_WP (124, 83, [.ref 84, .int x1, .int x2, .int x3, .int (0 : Int32), .null, .null, .null, .null, .null], [], (I, J, rf_w r, sh_w N, n), (0, 0)) Q)) ∧
        (¬ (x1 ≤ (I 84 32)) →
        ((x3 = 0 →
          (mc_WP (124, 83, [.ref 84, .int x1, .int x2, .int x3, .int (0 : Int32), .null, .null, .null, .null, .null], [], (I, J, rf_w r, sh_w N, n), (0, 0)) Q)) ∧
          (¬ (x3 = 0) →
          (∃ R : mc_Q, mc_WP (mc_en 116 [.ref 84] (I, J, rf_w r, sh_w N, n)) R ∧ (∀ v t, R (.inl v) t → mc_WP (124, 76, [.ref 84, .int x1, .int x2, .int x3, .null, .null, .null, .null, .null, .null], v.toList ++ [], t, (0, 0)) Q) ∧ (∀ k t, R (.inr k) t → Q (.inr k) t)))))) :
    mc_WP (124, 60, [.ref 84, .int x1, .int x2, .int x3, .null, .null, .null, .null, .null, .null], [], (I, J, rf_w r, sh_w N, n), (0, 0)) Q := by
  exact (mc_WP.run (mc_adjs _) 4 (And.intro rfl (And.intro (fun c6 => (mc_WP.run (mc_adjs _) 2 (h.1 c6))) (fun c6 => (mc_WP.run (mc_adjs _) 2 (And.intro (fun c7 => (mc_WP.run (mc_adjs _) 2 ((h.2 c6).1 c7))) (fun c7 => (mc_WP.run (mc_adjs _) 2 (And.intro rfl (And.intro (by decide) (And.intro (by decide) ((h.2 c6).2 c7))))))))))))
set_option maxRecDepth 20000 in
theorem bk_124_76 {x1 : Int32} {x2 : Int32} {x3 : Int32} {y0 : Int32}
    (h : mc_WP (124, 60, [.ref 84, .int x1, .int x2, .int y0, .null, .null, .null, .null, .null, .null], [], (I, J, rf_w r, sh_w N, n), (0, 0)) Q) :
    mc_WP (124, 76, [.ref 84, .int x1, .int x2, .int x3, .null, .null, .null, .null, .null, .null], [.int y0], (I, J, rf_w r, sh_w N, n), (0, 0)) Q := by
  exact (mc_WP.run (mc_adjs _) 2 h)
set_option maxRecDepth 20000 in
theorem bk_124_83 {x1 : Int32} {x2 : Int32} {x3 : Int32} {x4 : Int32}
    (h : ((I 84 32) ≤ x4 →
        (∃ R : mc_Q, mc_WP (mc_en 65 [.ref 84, .int (0 : Int32), .int (0 : Int32), .int (I 85 2), .int (I 85 3)] (I, J, rf_w r, sh_w N, n)) R ∧ (∀ v t, R (.inl v) t → mc_WP (124, 129, [.ref 84, .int x1, .int x2, .int x3, .int x4, .null, .null, .null, .null, .null], v.toList ++ [], t, (0, 0)) Q) ∧ (∀ k t, R (.inr k) t → Q (.inr k) t))) ∧
        (¬ ((I 84 32) ≤ x4) →
        (∃ R : mc_Q, mc_WP (mc_en 117 [.ref 84, .int x4] (I, J, rf_w r, sh_w N, n)) R ∧ (∀ v t, R (.inl v) t → mc_WP (124, 104, [.ref 84, .int x1, .int x2, .int x3, .int x4, .null, .null, .null, .null, .null], v.toList ++ [.int x4, .ref 103], t, (0, 0)) Q) ∧ (∀ k t, R (.inr k) t → Q (.inr k) t)))) :
    mc_WP (124, 83, [.ref 84, .int x1, .int x2, .int x3, .int x4, .null, .null, .null, .null, .null], [], (I, J, rf_w r, sh_w N, n), (0, 0)) Q := by
  exact (mc_WP.run (mc_adjs _) 4 (And.intro rfl (And.intro (fun c4 => (mc_WP.run (mc_adjs _) 12 (And.intro ⟨rfl, (show ¬ (85 : Nat) = 0 by decide)⟩ (And.intro (wl_ld rfl (show vp_in (2 : Int32) 45 by unfold vp_in; decide)) (And.intro ⟨rfl, (show ¬ (85 : Nat) = 0 by decide)⟩ (And.intro (wl_ld rfl (show vp_in (3 : Int32) 45 by unfold vp_in; decide)) (And.intro rfl (And.intro (by decide) (And.intro (by decide) (h.1 c4)))))))))) (fun c4 => (mc_WP.run (mc_adjs _) 6 (And.intro ⟨rfl, (show ¬ (103 : Nat) = 0 by decide)⟩ (And.intro rfl (And.intro (by decide) (And.intro (by decide) (h.2 c4))))))))))
set_option maxRecDepth 20000 in
theorem bk_124_104 {x1 : Int32} {x2 : Int32} {x3 : Int32} {x4 : Int32} {b0 : Nat} {b0z : Nat} {y1 : Int32} {y2 : Int32} (hb0 : sh_w N b0 = (2, b0z)) (gb0 : 10 ≤ b0)
    (h : vp_in y1 b0z ∧ mc_WP (124, 83, [.ref 84, .int x1, .int x2, .int x3, .int (x4 + (1 : Int32)), .null, .null, .null, .null, .null], [], ((mc_up I b0 y1.toNatClampNeg y2), J, rf_w r, sh_w N, n), (0, 0)) Q) :
    mc_WP (124, 104, [.ref 84, .int x1, .int x2, .int x3, .int x4, .null, .null, .null, .null, .null], [.int y2, .int y1, .ref b0], (I, J, rf_w r, sh_w N, n), (0, 0)) Q := by
  exact (mc_WP.run (mc_adjs _) 3 (And.intro (wl_st hb0 h.1 gb0) h.2))
set_option maxRecDepth 20000 in
theorem bk_124_129 {x1 : Int32} {x2 : Int32} {x3 : Int32} {x4 : Int32} {y0 : Int32}
    (h : mc_WP (124, 134, [.ref 84, .int x1, .int x2, .int x3, .int y0, .int (1 : Int32), .null, .null, .null, .null], [], (I, J, rf_w r, sh_w N, n), (0, 0)) Q) :
    mc_WP (124, 129, [.ref 84, .int x1, .int x2, .int x3, .int x4, .null, .null, .null, .null, .null], [.int y0], (I, J, rf_w r, sh_w N, n), (0, 0)) Q := by
  exact (mc_WP.run (mc_adjs _) 3 h)
set_option maxRecDepth 20000 in
theorem bk_124_134 {x1 : Int32} {x2 : Int32} {x3 : Int32} {x4 : Int32} {x5 : Int32}
    (h : ((I 84 32) ≤ ((1 : Int32) <<< (x5 &&& 31)) →
        (vp_in (((9 : Int32) * (x4 + (1 : Int32))) + (4 : Int32)) 45 ∧ mc_WP (124, 170, [.ref 84, .int x1, .int x2, .int x3, .int x4, .int x5, .int (0 : Int32), .null, .null, .null], [], ((mc_up I 85 (((9 : Int32) * (x4 + (1 : Int32))) + (4 : Int32)).toNatClampNeg x5), J, rf_w r, sh_w N, n), (0, 0)) Q)) ∧
        (¬ ((I 84 32) ≤ ((1 : Int32) <<< (x5 &&& 31))) →
        (mc_WP (124, 134, [.ref 84, .int x1, .int x2, .int x3, .int x4, .int (x5 + (1 : Int32)), .null, .null, .null, .null], [], (I, J, rf_w r, sh_w N, n), (0, 0)) Q))) :
    mc_WP (124, 134, [.ref 84, .int x1, .int x2, .int x3, .int x4, .int x5, .null, .null, .null, .null], [], (I, J, rf_w r, sh_w N, n), (0, 0)) Q := by
  exact (mc_WP.run (mc_adjs _) 6 (And.intro rfl (And.intro (fun c4 => (mc_WP.run (mc_adjs _) 13 (And.intro ⟨rfl, (show ¬ (85 : Nat) = 0 by decide)⟩ (And.intro (wl_st rfl (h.1 c4).1 (show 10 ≤ (85 : Nat) by decide)) (h.1 c4).2)))) (fun c4 => (mc_WP.run (mc_adjs _) 2 (h.2 c4))))))
set_option maxRecDepth 20000 in
theorem bk_124_170 {x1 : Int32} {x2 : Int32} {x3 : Int32} {x4 : Int32} {x5 : Int32} {x6 : Int32}
    (h : ((I 84 32) ≤ x6 →
        (mc_WP (124, 210, [.ref 84, .int x1, .int x2, .int x3, .int x4, .int x5, .int (0 : Int32), .null, .null, .null], [], (I, J, rf_w r, sh_w N, n), (0, 0)) Q)) ∧
        (¬ ((I 84 32) ≤ x6) →
        (vp_in x6 16 ∧ vp_in (((16 : Int32) * (x4 + (1 : Int32))) + x6) 80 ∧ mc_WP (124, 170, [.ref 84, .int x1, .int x2, .int x3, .int x4, .int x5, .int (x6 + (1 : Int32)), .null, .null, .null], [], ((mc_up I 86 (((16 : Int32) * (x4 + (1 : Int32))) + x6).toNatClampNeg (I 103 x6.toNatClampNeg)), J, rf_w r, sh_w N, n), (0, 0)) Q))) :
    mc_WP (124, 170, [.ref 84, .int x1, .int x2, .int x3, .int x4, .int x5, .int x6, .null, .null, .null], [], (I, J, rf_w r, sh_w N, n), (0, 0)) Q := by
  exact (mc_WP.run (mc_adjs _) 4 (And.intro rfl (And.intro (fun c4 => (mc_WP.run (mc_adjs _) 2 (h.1 c4))) (fun c4 => (mc_WP.run (mc_adjs _) 16 (And.intro ⟨rfl, (show ¬ (86 : Nat) = 0 by decide)⟩ (And.intro ⟨rfl, (show ¬ (103 : Nat) = 0 by decide)⟩ (And.intro (wl_ld rfl (h.2 c4).1) (And.intro (wl_st rfl (h.2 c4).2.1 (show 10 ≤ (86 : Nat) by decide)) (h.2 c4).2.2)))))))))
set_option maxRecDepth 20000 in
theorem bk_124_210 {x1 : Int32} {x2 : Int32} {x3 : Int32} {x4 : Int32} {x5 : Int32} {x6 : Int32}
    (h : ((192 : Int32) ≤ x6 →
        (mc_WP (124, 235, [.ref 84, .int x1, .int x2, .int x3, .int x4, .int x5, .int (0 : Int32), .null, .null, .null], [], (I, J, rf_w r, sh_w N, n), (0, 0)) Q)) ∧
        (¬ ((192 : Int32) ≤ x6) →
        (vp_in x6 192 ∧ mc_WP (124, 210, [.ref 84, .int x1, .int x2, .int x3, .int x4, .int x5, .int (x6 + (1 : Int32)), .null, .null, .null], [], ((mc_up I 104 x6.toNatClampNeg (0 : Int32)), J, rf_w r, sh_w N, n), (0, 0)) Q))) :
    mc_WP (124, 210, [.ref 84, .int x1, .int x2, .int x3, .int x4, .int x5, .int x6, .null, .null, .null], [], (I, J, rf_w r, sh_w N, n), (0, 0)) Q := by
  exact (mc_WP.run (mc_adjs _) 3 (And.intro (fun c4 => (mc_WP.run (mc_adjs _) 2 (h.1 c4))) (fun c4 => (mc_WP.run (mc_adjs _) 7 (And.intro ⟨rfl, (show ¬ (104 : Nat) = 0 by decide)⟩ (And.intro (wl_st rfl (h.2 c4).1 (show 10 ≤ (104 : Nat) by decide)) (h.2 c4).2))))))
set_option maxRecDepth 20000 in
theorem bk_124_235 {x1 : Int32} {x2 : Int32} {x3 : Int32} {x4 : Int32} {x5 : Int32} {x6 : Int32} {x7 : Value} {x8 : Value} {x9 : Value}
    (h : ((I 85 3) ≤ x6 → (Q (.inl (some (.int (I 84 32)))) (I, J, rf_w r, sh_w N, n))) ∧
        (¬ ((I 85 3) ≤ x6) →
        (¬ (2 : Int32) = 0 ∧ (¬ (x6 - x6 / (2 : Int32) * (2 : Int32)) = 0 →
          (mc_WP (124, 263, [.ref 84, .int x1, .int x2, .int x3, .int x4, .int x5, .int x6, .int (-1 : Int32), .int (0 : Int32), x9], [], (I, J, rf_w r, sh_w N, n), (0, 0)) Q)) ∧
          (¬ (¬ (x6 - x6 / (2 : Int32) * (2 : Int32)) = 0) →
          (mc_WP (124, 263, [.ref 84, .int x1, .int x2, .int x3, .int x4, .int x5, .int x6, .int (1 : Int32), .int (0 : Int32), x9], [], (I, J, rf_w r, sh_w N, n), (0, 0)) Q))))) :
    mc_WP (124, 235, [.ref 84, .int x1, .int x2, .int x3, .int x4, .int x5, .int x6, x7, x8, x9], [], (I, J, rf_w r, sh_w N, n), (0, 0)) Q := by
  exact (mc_WP.run (mc_adjs _) 6 (And.intro ⟨rfl, (show ¬ (85 : Nat) = 0 by decide)⟩ (And.intro (wl_ld rfl (show vp_in (3 : Int32) 45 by unfold vp_in; decide)) (And.intro (fun c7 => (mc_WP.run (mc_adjs _) 3 (And.intro rfl (h.1 c7)))) (fun c7 => (mc_WP.run (mc_adjs _) 4 (And.intro (by decide) (And.intro (fun c8 => (mc_WP.run (mc_adjs _) 4 ((h.2 c7).2.1 c8))) (fun c8 => (mc_WP.run (mc_adjs _) 2 (mc_WP.run (mc_adjs _) 3 ((h.2 c7).2.2 c8))))))))))))
set_option maxRecDepth 20000 in
theorem bk_124_263 {x1 : Int32} {x2 : Int32} {x3 : Int32} {x4 : Int32} {x5 : Int32} {x6 : Int32} {x7 : Int32} {x8 : Int32} {x9 : Value}
    (h : ((I 85 2) ≤ x8 →
        (mc_WP (124, 235, [.ref 84, .int x1, .int x2, .int x3, .int x4, .int x5, .int (x6 + (1 : Int32)), .int x7, .int x8, x9], [], (I, J, rf_w r, sh_w N, n), (0, 0)) Q)) ∧
        (¬ ((I 85 2) ≤ x8) →
        ((x7 ≤ 0 →
          (∃ R : mc_Q, mc_WP (mc_en 123 [.ref 84, .int (((I 85 2) - (1 : Int32)) - x8), .int x6, .int x2, .int x7] (I, J, rf_w r, sh_w N, n)) R ∧ (∀ v t, R (.inl v) t → mc_WP (124, 326, [.ref 84, .int x1, .int x2, .int x3, .int x4, .int x5, .int x6, .int x7, .int x8, .int (((I 85 2) - (1 : Int32)) - x8)], v.toList ++ [.int ((((64 : Int32) * x4) + ((8 : Int32) * x6)) + (((I 85 2) - (1 : Int32)) - x8)), .ref 87], t, (0, 0)) Q) ∧ (∀ k t, R (.inr k) t → Q (.inr k) t))) ∧
          (¬ (x7 ≤ 0) →
          (∃ R : mc_Q, mc_WP (mc_en 123 [.ref 84, .int x8, .int x6, .int x2, .int x7] (I, J, rf_w r, sh_w N, n)) R ∧ (∀ v t, R (.inl v) t → mc_WP (124, 326, [.ref 84, .int x1, .int x2, .int x3, .int x4, .int x5, .int x6, .int x7, .int x8, .int x8], v.toList ++ [.int ((((64 : Int32) * x4) + ((8 : Int32) * x6)) + x8), .ref 87], t, (0, 0)) Q) ∧ (∀ k t, R (.inr k) t → Q (.inr k) t)))))) :
    mc_WP (124, 263, [.ref 84, .int x1, .int x2, .int x3, .int x4, .int x5, .int x6, .int x7, .int x8, x9], [], (I, J, rf_w r, sh_w N, n), (0, 0)) Q := by
  exact (mc_WP.run (mc_adjs _) 6 (And.intro ⟨rfl, (show ¬ (85 : Nat) = 0 by decide)⟩ (And.intro (wl_ld rfl (show vp_in (2 : Int32) 45 by unfold vp_in; decide)) (And.intro (fun c7 => (mc_WP.run (mc_adjs _) 2 (h.1 c7))) (fun c7 => (mc_WP.run (mc_adjs _) 2 (And.intro (fun c8 => (mc_WP.run (mc_adjs _) 26 (And.intro ⟨rfl, (show ¬ (85 : Nat) = 0 by decide)⟩ (And.intro (wl_ld rfl (show vp_in (2 : Int32) 45 by unfold vp_in; decide)) (And.intro ⟨rfl, (show ¬ (87 : Nat) = 0 by decide)⟩ (And.intro rfl (And.intro (by decide) (And.intro (by decide) ((h.2 c7).1 c8))))))))) (fun c8 => (mc_WP.run (mc_adjs _) 2 (mc_WP.run (mc_adjs _) 18 (And.intro ⟨rfl, (show ¬ (87 : Nat) = 0 by decide)⟩ (And.intro rfl (And.intro (by decide) (And.intro (by decide) ((h.2 c7).2 c8)))))))))))))))
set_option maxRecDepth 20000 in
theorem bk_124_326 {x1 : Int32} {x2 : Int32} {x3 : Int32} {x4 : Int32} {x5 : Int32} {x6 : Int32} {x7 : Int32} {x8 : Int32} {x9 : Int32} {b0 : Nat} {b0z : Nat} {y1 : Int32} {y2 : Int32} (hb0 : sh_w N b0 = (2, b0z)) (gb0 : 10 ≤ b0)
    (h : vp_in y1 b0z ∧ mc_WP (124, 263, [.ref 84, .int x1, .int x2, .int x3, .int x4, .int x5, .int x6, .int x7, .int (x8 + (1 : Int32)), .int x9], [], ((mc_up I b0 y1.toNatClampNeg y2), J, rf_w r, sh_w N, n), (0, 0)) Q) :
    mc_WP (124, 326, [.ref 84, .int x1, .int x2, .int x3, .int x4, .int x5, .int x6, .int x7, .int x8, .int x9], [.int y2, .int y1, .ref b0], (I, J, rf_w r, sh_w N, n), (0, 0)) Q := by
  exact (mc_WP.run (mc_adjs _) 3 (And.intro (wl_st hb0 h.1 gb0) h.2))
-- 125 has(I)Z inl<=6
set_option maxRecDepth 20000 in
theorem bk_125_0 {a0 : Nat} {x1 : Int32} (ha0 : is_B a0)
    (h : (x1 < 0 → (Q (.inl (some (.int (0 : Int32)))) (I, J, rf_w r, sh_w N, n))) ∧
        (¬ (x1 < 0) →
        (((I a0 1) ≤ x1 → (Q (.inl (some (.int (0 : Int32)))) (I, J, rf_w r, sh_w N, n))) ∧
          (¬ ((I a0 1) ≤ x1) → (Q (.inl (some (.int (1 : Int32)))) (I, J, rf_w r, sh_w N, n)))))) :
    mc_WP (mc_en 125 [.ref a0, .int x1] (I, J, rf_w r, sh_w N, n)) Q := by
  exact (mc_WP.run (mc_adjs _) 2 (And.intro (fun c7 => (mc_WP.run (mc_adjs _) 2 (And.intro (by decide) (h.1 c7)))) (fun c7 => (mc_WP.run (mc_adjs _) 4 (And.intro (wd_B (r := r) (N := N) ha0).1 (And.intro (fun c8 => (mc_WP.run (mc_adjs _) 2 (And.intro (by decide) ((h.2 c7).1 c8)))) (fun c8 => (mc_WP.run (mc_adjs _) 2 (mc_WP.run (mc_adjs _) 1 (And.intro (by decide) ((h.2 c7).2 c8)))))))))))
-- 126 add(I)V inl<=6
set_option maxRecDepth 20000 in
theorem bk_126_0 {a0 : Nat} {x1 : Int32} (ha0 : is_B a0)
    (h : ((Int32.ofNat (sh_w N (a0 + 1)).2) ≤ (I a0 1) → (Q (.inl none) (I, J, rf_w r, sh_w N, n))) ∧
        (¬ ((Int32.ofNat (sh_w N (a0 + 1)).2) ≤ (I a0 1)) →
        (vp_in (I a0 1) (wd_cap a0) ∧ Q (.inl none) ((mc_up (mc_up I (a0 + 1) (I a0 1).toNatClampNeg x1) a0 1 (((mc_up I (a0 + 1) (I a0 1).toNatClampNeg x1) a0 1) + (1 : Int32))), J, rf_w r, sh_w N, n)))) :
    mc_WP (mc_en 126 [.ref a0, .int x1] (I, J, rf_w r, sh_w N, n)) Q := by
  exact (by have g1 := h; have e2 : rf_w r a0 0 = (a0 + 1) := (wd_B (r := r) (N := N) ha0).2.1; have s3 : sh_w N (rf_w r a0 0) = (2, (wd_cap a0)) := (by rw [e2]; exact (wd_B (r := r) (N := N) ha0).2.2); have ts3 : 10 ≤ rf_w r a0 0 := (by rw [e2]; exact wd_tB ha0 _); (try rw [← e2] at g1); exact (mc_WP.run (mc_adjs _) 6 (And.intro (wd_B (r := r) (N := N) ha0).1 (And.intro ⟨(wd_B (r := r) (N := N) ha0).1, (wd_Z s3)⟩ (And.intro (wl_len s3 (by decide) (by decide)) (And.intro (fun c6 => (mc_WP.run (mc_adjs _) 1 (g1.1 c6))) (fun c6 => (mc_WP.run (mc_adjs _) 13 (And.intro ⟨(wd_B (r := r) (N := N) ha0).1, (wd_Z s3)⟩ (And.intro (wd_B (r := r) (N := N) ha0).1 (And.intro (wl_st s3 (g1.2 c6).1 ts3) (And.intro (wd_B (r := r) (N := N) ha0).1 (And.intro (wd_B (r := r) (N := N) ha0).1 (g1.2 c6).2)))))))))))))
-- 127 empty()V inl<=6
set_option maxRecDepth 20000 in
theorem bk_127_0
    (h : ∃ R : mc_Q, mc_WP (mc_en 205 [.ref 12, .int (-1 : Int32)] (I, J, rf_w r, sh_w N, n)) R ∧ (∀ v t, R (.inl v) t → mc_WP (127, 8, [.ref 11], v.toList ++ [], t, (0, 0)) Q) ∧ (∀ k t, R (.inr k) t → Q (.inr k) t)) :
    mc_WP (mc_en 127 [.ref 11] (I, J, rf_w r, sh_w N, n)) Q := by
  exact (mc_WP.run (mc_adjs _) 4 (And.intro ⟨rfl, (show ¬ (12 : Nat) = 0 by decide)⟩ (And.intro (by decide) (And.intro (by decide) h))))
set_option maxRecDepth 20000 in
theorem bk_127_8
    (h : Q (.inl none) (I, J, rf_w r, sh_w N, n)) :
    mc_WP (127, 8, [.ref 11], [], (I, J, rf_w r, sh_w N, n), (0, 0)) Q := by
  exact (mc_WP.run (mc_adjs _) 1 h)
-- 128 showFirst(LPaletteReel$Reel;I)V inl<=6
set_option maxRecDepth 20000 in
theorem bk_128_0 {a1 : Nat} {x2 : Int32} (ha1 : is_R a1)
    (h : ∃ R : mc_Q, mc_WP (mc_en 127 [.ref 11] (I, J, rf_w r, sh_w N, n)) R ∧ (∀ v t, R (.inl v) t → mc_WP (128, 4, [.ref 11, .ref a1, .int x2, .null], v.toList ++ [], t, (0, 0)) Q) ∧ (∀ k t, R (.inr k) t → Q (.inr k) t)) :
    mc_WP (mc_en 128 [.ref 11, .ref a1, .int x2] (I, J, rf_w r, sh_w N, n)) Q := by
  exact (mc_WP.run (mc_adjs _) 2 (And.intro rfl (And.intro (by decide) (And.intro (by decide) h))))
set_option maxRecDepth 20000 in
theorem bk_128_4 {a1 : Nat} {x2 : Int32} (ha1 : is_R a1)
    (h : mc_WP (128, 6, [.ref 11, .ref a1, .int x2, .int (0 : Int32)], [], (I, J, rf_w r, sh_w N, n), (0, 0)) Q) :
    mc_WP (128, 4, [.ref 11, .ref a1, .int x2, .null], [], (I, J, rf_w r, sh_w N, n), (0, 0)) Q := by
  exact (mc_WP.run (mc_adjs _) 2 h)
set_option maxRecDepth 20000 in
theorem bk_128_6 {a1 : Nat} {x2 : Int32} {x3 : Int32} (ha1 : is_R a1)
    (h : (x2 ≤ x3 → (Q (.inl none) (I, J, rf_w r, sh_w N, n))) ∧
        (¬ (x2 ≤ x3) →
        ((x3 ≤ 0 →
          (mc_WP (128, 28, [.ref 11, .ref a1, .int x2, .int x3], [], (I, J, rf_w r, sh_w N, n), (0, 0)) Q)) ∧
          (¬ (x3 ≤ 0) →
          (vp_in (x3 - (1 : Int32)) 4 ∧ ∃ R : mc_Q, mc_WP (mc_en 131 [.ref 11, .ref a1, .ref (a1 + 4 + 4 * (x3 - (1 : Int32)).toNatClampNeg)] (I, J, rf_w r, sh_w N, n)) R ∧ (∀ v t, R (.inl v) t → mc_WP (128, 28, [.ref 11, .ref a1, .int x2, .int x3], v.toList ++ [], t, (0, 0)) Q) ∧ (∀ k t, R (.inr k) t → Q (.inr k) t)))))) :
    mc_WP (128, 6, [.ref 11, .ref a1, .int x2, .int x3], [], (I, J, rf_w r, sh_w N, n), (0, 0)) Q := by
  exact (mc_WP.run (mc_adjs _) 3 (And.intro (fun c11 => (mc_WP.run (mc_adjs _) 1 (h.1 c11))) (fun c11 => (mc_WP.run (mc_adjs _) 2 (And.intro (fun c12 => ((h.2 c11).1 c12)) (fun c12 => (by have g4 := ((h.2 c11).2 c12); have e5 : rf_w r a1 1 = (a1 + 3) := (wd_R (r := r) (N := N) ha1).2.2.1; have s6 : sh_w N (rf_w r a1 1) = (3, 4) := (by rw [e5]; exact (wd_R (r := r) (N := N) ha1).2.2.2.2.2); (try rw [← e5] at g4); have f7 : vp_in (x3 - (1 : Int32)) 4 := g4.1; have e8 : rf_w r (rf_w r a1 1) (x3 - (1 : Int32)).toNatClampNeg = (a1 + 4 + 4 * (x3 - (1 : Int32)).toNatClampNeg) := (by rw [e5]; exact (wd_A (r := r) (N := N) ha1 f7).1); have s9 : sh_w N (rf_w r (rf_w r a1 1) (x3 - (1 : Int32)).toNatClampNeg) = (1, 4) := (by rw [e8]; exact (wd_A (r := r) (N := N) ha1 f7).2.1); have k10 : is_F (rf_w r (rf_w r a1 1) (x3 - (1 : Int32)).toNatClampNeg) := (by rw [e8]; exact (wd_A (r := r) (N := N) ha1 f7).2.2); (try rw [← e8] at g4); exact (mc_WP.run (mc_adjs _) 9 (And.intro ⟨(wd_R (r := r) (N := N) ha1).1, (wd_Z s6)⟩ (And.intro (wl_la s6 g4.1 (wd_Z s9)) (And.intro rfl (And.intro (by decide) (And.intro (by decide) g4.2)))))))))))))
set_option maxRecDepth 20000 in
theorem bk_128_28 {a1 : Nat} {x2 : Int32} {x3 : Int32} (ha1 : is_R a1)
    (h : vp_in x3 4 ∧ vp_in x3 4 ∧ (((mc_cpy I 12 13 0 0 64) ((a1 + 4 + 4 * x3.toNatClampNeg) + 2) 1) ≤ 0 →
        (∃ R : mc_Q, mc_WP (mc_en 130 [.ref 11, .ref a1, .ref (a1 + 4 + 4 * x3.toNatClampNeg), .ref (a1 + 1)] ((mc_cpy I 12 13 0 0 64), J, rf_w r, sh_w N, n)) R ∧ (∀ v t, R (.inl v) t → mc_WP (128, 64, [.ref 11, .ref a1, .int x2, .int x3], v.toList ++ [], t, (0, 0)) Q) ∧ (∀ k t, R (.inr k) t → Q (.inr k) t))) ∧
        (¬ (((mc_cpy I 12 13 0 0 64) ((a1 + 4 + 4 * x3.toNatClampNeg) + 2) 1) ≤ 0) →
        (∃ R : mc_Q, mc_WP (mc_en 130 [.ref 11, .ref a1, .ref (a1 + 4 + 4 * x3.toNatClampNeg), .ref ((a1 + 4 + 4 * x3.toNatClampNeg) + 2)] ((mc_cpy I 12 13 0 0 64), J, rf_w r, sh_w N, n)) R ∧ (∀ v t, R (.inl v) t → mc_WP (128, 64, [.ref 11, .ref a1, .int x2, .int x3], v.toList ++ [], t, (0, 0)) Q) ∧ (∀ k t, R (.inr k) t → Q (.inr k) t)))) :
    mc_WP (128, 28, [.ref 11, .ref a1, .int x2, .int x3], [], (I, J, rf_w r, sh_w N, n), (0, 0)) Q := by
  exact (by have g1 := h; have e2 : rf_w r a1 1 = (a1 + 3) := (wd_R (r := r) (N := N) ha1).2.2.1; have s3 : sh_w N (rf_w r a1 1) = (3, 4) := (by rw [e2]; exact (wd_R (r := r) (N := N) ha1).2.2.2.2.2); (try rw [← e2] at g1); have f4 : vp_in x3 4 := g1.1; have e5 : rf_w r (rf_w r a1 1) x3.toNatClampNeg = (a1 + 4 + 4 * x3.toNatClampNeg) := (by rw [e2]; exact (wd_A (r := r) (N := N) ha1 f4).1); have s6 : sh_w N (rf_w r (rf_w r a1 1) x3.toNatClampNeg) = (1, 4) := (by rw [e5]; exact (wd_A (r := r) (N := N) ha1 f4).2.1); have k7 : is_F (rf_w r (rf_w r a1 1) x3.toNatClampNeg) := (by rw [e5]; exact (wd_A (r := r) (N := N) ha1 f4).2.2); (try rw [← e5] at g1); have f8 : vp_in x3 4 := g1.2.1; exact (mc_WP.run (mc_adjs _) 20 (And.intro ⟨rfl, (show ¬ (12 : Nat) = 0 by decide)⟩ (And.intro ⟨rfl, (show ¬ (13 : Nat) = 0 by decide)⟩ (And.intro ⟨rfl, rfl, (show 10 ≤ (13 : Nat) by decide), (by decide), (by decide), (by decide), (show 64 ≤ 64 by decide), (show 64 ≤ 64 by decide)⟩ (And.intro ⟨(wd_R (r := r) (N := N) ha1).1, (wd_Z s3)⟩ (And.intro (wl_la s3 g1.1 (wd_Z s6)) (And.intro ⟨(wd_R (r := r) (N := N) ha1).1, (wd_Z s3)⟩ (And.intro (wl_la s3 g1.2.1 (wd_Z s6)) (And.intro (wd_R (r := r) (N := N) ha1).1 (And.intro (by decide) (And.intro (by decide) (mc_inl (by have g9 := g1.2.2; have e10 : rf_w r (rf_w r (rf_w r a1 1) x3.toNatClampNeg) 1 = ((rf_w r (rf_w r a1 1) x3.toNatClampNeg) + 2) := (wd_F (r := r) (N := N) k7).2.2.1; have s11 : sh_w N (rf_w r (rf_w r (rf_w r a1 1) x3.toNatClampNeg) 1) = (1, 6) := (by rw [e10]; exact (wd_F (r := r) (N := N) k7).2.2.2.2.1); have k12 : is_P (rf_w r (rf_w r (rf_w r a1 1) x3.toNatClampNeg) 1) := (by rw [e10]; exact (wd_F (r := r) (N := N) k7).2.2.2.2.2); (try rw [← e10] at g9); exact (mc_WP.run (mc_adjs _) 4 (And.intro ⟨s6, (wd_Z s11)⟩ (And.intro s11 (And.intro (fun c21 => (by have g13 := (g9.1 c21); have e14 : rf_w r a1 0 = (a1 + 1) := (wd_R (r := r) (N := N) ha1).2.1; have s15 : sh_w N (rf_w r a1 0) = (1, 6) := (by rw [e14]; exact (wd_R (r := r) (N := N) ha1).2.2.2.1); have k16 : is_P (rf_w r a1 0) := (by rw [e14]; exact (wd_R (r := r) (N := N) ha1).2.2.2.2.1); (try rw [← e14] at g13); exact (mc_WP.run (mc_adjs _) 3 (And.intro ⟨(wd_R (r := r) (N := N) ha1).1, (wd_Z s15)⟩ (mc_WP.run (mc_adjs _) 1 (And.intro rfl (And.intro (by decide) (And.intro (by decide) g13)))))))) (fun c21 => (mc_WP.run (mc_adjs _) 3 (And.intro ⟨s6, (wd_Z s11)⟩ (mc_WP.run (mc_adjs _) 1 (mc_WP.run (mc_adjs _) 1 (And.intro rfl (And.intro (by decide) (And.intro (by decide) (g9.2 c21)))))))))))))))))))))))))))
set_option maxRecDepth 20000 in
theorem bk_128_64 {a1 : Nat} {x2 : Int32} {x3 : Int32} (ha1 : is_R a1)
    (h : mc_WP (128, 6, [.ref 11, .ref a1, .int x2, .int (x3 + (1 : Int32))], [], (I, J, rf_w r, sh_w N, n), (0, 0)) Q) :
    mc_WP (128, 64, [.ref 11, .ref a1, .int x2, .int x3], [], (I, J, rf_w r, sh_w N, n), (0, 0)) Q := by
  exact (mc_WP.run (mc_adjs _) 2 h)
-- 129 countColours()I inl<=6
set_option maxRecDepth 20000 in
theorem bk_129_0
    (h : mc_WP (129, 4, [.ref 11, .int (0 : Int32), .int (0 : Int32)], [], (I, J, rf_w r, sh_w N, n), (0, 0)) Q) :
    mc_WP (mc_en 129 [.ref 11] (I, J, rf_w r, sh_w N, n)) Q := by
  exact (mc_WP.run (mc_adjs _) 4 h)
set_option maxRecDepth 20000 in
theorem bk_129_4 {x1 : Int32} {x2 : Int32}
    (h : ((64 : Int32) ≤ x2 → (Q (.inl (some (.int x1))) (I, J, rf_w r, sh_w N, n))) ∧
        (¬ ((64 : Int32) ≤ x2) →
        (vp_in x2 64 ∧ (¬ (I 12 x2.toNatClampNeg) = (-1 : Int32) →
          (mc_WP (129, 4, [.ref 11, .int (x1 + (1 : Int32)), .int (x2 + (1 : Int32))], [], (I, J, rf_w r, sh_w N, n), (0, 0)) Q)) ∧
          (¬ (¬ (I 12 x2.toNatClampNeg) = (-1 : Int32)) →
          (mc_WP (129, 4, [.ref 11, .int (x1 + (0 : Int32)), .int (x2 + (1 : Int32))], [], (I, J, rf_w r, sh_w N, n), (0, 0)) Q))))) :
    mc_WP (129, 4, [.ref 11, .int x1, .int x2], [], (I, J, rf_w r, sh_w N, n), (0, 0)) Q := by
  exact (mc_WP.run (mc_adjs _) 3 (And.intro (fun c7 => (mc_WP.run (mc_adjs _) 2 (h.1 c7))) (fun c7 => (mc_WP.run (mc_adjs _) 7 (And.intro ⟨rfl, (show ¬ (12 : Nat) = 0 by decide)⟩ (And.intro (wl_ld rfl (h.2 c7).1) (And.intro (fun c8 => (mc_WP.run (mc_adjs _) 5 ((h.2 c7).2.1 c8))) (fun c8 => (mc_WP.run (mc_adjs _) 2 (mc_WP.run (mc_adjs _) 4 ((h.2 c7).2.2 c8)))))))))))
-- 130 lay(LPaletteReel$Reel;LPaletteReel$Frame;LPaletteReel$Palette;)V inl<=6
set_option maxRecDepth 20000 in
theorem bk_130_0 {a1 : Nat} {a2 : Nat} {a3 : Nat} (ha1 : is_R a1) (ha2 : is_F a2) (ha3 : is_P a3)
    (h : mc_WP (130, 39, [.ref 11, .ref a1, .ref a2, .ref a3, .int (if ((I a1 2) - (I a2 2)) < (I a2 4) then ((I a1 2) - (I a2 2)) else (I a2 4)), .int (if ((I a1 3) - (I a2 3)) < (I a2 5) then ((I a1 3) - (I a2 3)) else (I a2 5)), .int (0 : Int32), .null, .null], [], (I, J, rf_w r, sh_w N, n), (0, 0)) Q) :
    mc_WP (mc_en 130 [.ref 11, .ref a1, .ref a2, .ref a3] (I, J, rf_w r, sh_w N, n)) Q := by
  exact (mc_WP.run (mc_adjs _) 20 (And.intro (wd_F (r := r) (N := N) ha2).1 (And.intro (wd_R (r := r) (N := N) ha1).1 (And.intro (wd_F (r := r) (N := N) ha2).1 (And.intro (wd_F (r := r) (N := N) ha2).1 (And.intro (wd_R (r := r) (N := N) ha1).1 (And.intro (wd_F (r := r) (N := N) ha2).1 h)))))))
set_option maxRecDepth 20000 in
theorem bk_130_39 {a1 : Nat} {a2 : Nat} {a3 : Nat} {x4 : Int32} {x5 : Int32} {x6 : Int32} {x7 : Value} {x8 : Value} (ha1 : is_R a1) (ha2 : is_F a2) (ha3 : is_P a3)
    (h : (x5 ≤ x6 → (Q (.inl none) (I, J, rf_w r, sh_w N, n))) ∧
        (¬ (x5 ≤ x6) →
        (mc_WP (130, 49, [.ref 11, .ref a1, .ref a2, .ref a3, .int x4, .int x5, .int x6, .int (0 : Int32), x8], [], (I, J, rf_w r, sh_w N, n), (0, 0)) Q))) :
    mc_WP (130, 39, [.ref 11, .ref a1, .ref a2, .ref a3, .int x4, .int x5, .int x6, x7, x8], [], (I, J, rf_w r, sh_w N, n), (0, 0)) Q := by
  exact (mc_WP.run (mc_adjs _) 3 (And.intro (fun c4 => (mc_WP.run (mc_adjs _) 1 (h.1 c4))) (fun c4 => (mc_WP.run (mc_adjs _) 2 (h.2 c4)))))
set_option maxRecDepth 20000 in
theorem bk_130_49 {a1 : Nat} {a2 : Nat} {a3 : Nat} {x4 : Int32} {x5 : Int32} {x6 : Int32} {x7 : Int32} {x8 : Value} (ha1 : is_R a1) (ha2 : is_F a2) (ha3 : is_P a3)
    (h : (x4 ≤ x7 →
        (mc_WP (130, 39, [.ref 11, .ref a1, .ref a2, .ref a3, .int x4, .int x5, .int (x6 + (1 : Int32)), .int x7, x8], [], (I, J, rf_w r, sh_w N, n), (0, 0)) Q)) ∧
        (¬ (x4 ≤ x7) →
        (vp_in ((x6 * (8 : Int32)) + x7) 64 ∧ ((I (a2 + 1) ((x6 * (8 : Int32)) + x7).toNatClampNeg) = (I a2 8) →
          (mc_WP (130, 49, [.ref 11, .ref a1, .ref a2, .ref a3, .int x4, .int x5, .int x6, .int (x7 + (1 : Int32)), .int (I (a2 + 1) ((x6 * (8 : Int32)) + x7).toNatClampNeg)], [], (I, J, rf_w r, sh_w N, n), (0, 0)) Q)) ∧
          (¬ ((I (a2 + 1) ((x6 * (8 : Int32)) + x7).toNatClampNeg) = (I a2 8)) →
          (vp_in (I (a2 + 1) ((x6 * (8 : Int32)) + x7).toNatClampNeg) 16 ∧ vp_in ((((I a2 3) + x6) * (8 : Int32)) + ((I a2 2) + x7)) 64 ∧ mc_WP (130, 49, [.ref 11, .ref a1, .ref a2, .ref a3, .int x4, .int x5, .int x6, .int (x7 + (1 : Int32)), .int (I (a2 + 1) ((x6 * (8 : Int32)) + x7).toNatClampNeg)], [], ((mc_up I 12 ((((I a2 3) + x6) * (8 : Int32)) + ((I a2 2) + x7)).toNatClampNeg (I (a3 + 1) (I (a2 + 1) ((x6 * (8 : Int32)) + x7).toNatClampNeg).toNatClampNeg)), J, rf_w r, sh_w N, n), (0, 0)) Q))))) :
    mc_WP (130, 49, [.ref 11, .ref a1, .ref a2, .ref a3, .int x4, .int x5, .int x6, .int x7, x8], [], (I, J, rf_w r, sh_w N, n), (0, 0)) Q := by
  exact (mc_WP.run (mc_adjs _) 3 (And.intro (fun c14 => (mc_WP.run (mc_adjs _) 2 (h.1 c14))) (fun c14 => (by have g3 := (h.2 c14); have e4 : rf_w r a2 0 = (a2 + 1) := (wd_F (r := r) (N := N) ha2).2.1; have s5 : sh_w N (rf_w r a2 0) = (2, 64) := (by rw [e4]; exact (wd_F (r := r) (N := N) ha2).2.2.2.1); have ts5 : 10 ≤ rf_w r a2 0 := (by rw [e4]; exact wd_tF ha2 _); (try rw [← e4] at g3); exact (mc_WP.run (mc_adjs _) 5 (And.intro ⟨(wd_F (r := r) (N := N) ha2).1, (wd_Z s5)⟩ (And.intro (by decide) (And.intro (by decide) (mc_inl (mc_WP.run (mc_adjs _) 6 (mc_WP.run (mc_adjs _) 6 (And.intro (wl_ld s5 g3.1) (And.intro (wd_F (r := r) (N := N) ha2).1 (And.intro (fun c15 => (mc_WP.run (mc_adjs _) 2 (g3.2.1 c15))) (fun c15 => (mc_WP.run (mc_adjs _) 11 (And.intro ⟨rfl, (show ¬ (12 : Nat) = 0 by decide)⟩ (And.intro (wd_F (r := r) (N := N) ha2).1 (And.intro (wd_F (r := r) (N := N) ha2).1 (And.intro (by decide) (And.intro (by decide) (mc_inl (mc_WP.run (mc_adjs _) 6 (by have g11 := (g3.2.2 c15); have e12 : rf_w r a3 0 = (a3 + 1) := (wd_P (r := r) (N := N) ha3).2.1; have s13 : sh_w N (rf_w r a3 0) = (2, 16) := (by rw [e12]; exact (wd_P (r := r) (N := N) ha3).2.2); have ts13 : 10 ≤ rf_w r a3 0 := (by rw [e12]; exact wd_tP ha3 _); (try rw [← e12] at g11); exact (mc_WP.run (mc_adjs _) 7 (And.intro ⟨(wd_P (r := r) (N := N) ha3).1, (wd_Z s13)⟩ (And.intro (wl_ld s13 g11.1) (And.intro (wl_st rfl g11.2.1 (show 10 ≤ (12 : Nat) by decide)) g11.2.2))))))))))))))))))))))))))))
-- 131 dispose(LPaletteReel$Reel;LPaletteReel$Frame;)V inl<=6
set_option maxRecDepth 20000 in
theorem bk_131_0 {a1 : Nat} {a2 : Nat} (ha1 : is_R a1) (ha2 : is_F a2)
    (h : (¬ (I a2 6) = (2 : Int32) →
        ((¬ (I a2 6) = (3 : Int32) → (Q (.inl none) (I, J, rf_w r, sh_w N, n))) ∧
          (¬ (¬ (I a2 6) = (3 : Int32)) →
          (Q (.inl none) ((mc_cpy I 13 12 0 0 64), J, rf_w r, sh_w N, n))))) ∧
        (¬ (¬ (I a2 6) = (2 : Int32)) →
        (∃ R : mc_Q, mc_WP (mc_en 132 [.ref 11, .ref a1, .ref a2] (I, J, rf_w r, sh_w N, n)) R ∧ (∀ v t, R (.inl v) t → mc_WP (131, 14, [.ref 11, .ref a1, .ref a2], v.toList ++ [], t, (0, 0)) Q) ∧ (∀ k t, R (.inr k) t → Q (.inr k) t)))) :
    mc_WP (mc_en 131 [.ref 11, .ref a1, .ref a2] (I, J, rf_w r, sh_w N, n)) Q := by
  exact (mc_WP.run (mc_adjs _) 4 (And.intro (wd_F (r := r) (N := N) ha2).1 (And.intro (fun c6 => (mc_WP.run (mc_adjs _) 4 (And.intro (wd_F (r := r) (N := N) ha2).1 (And.intro (fun c7 => (mc_WP.run (mc_adjs _) 1 ((h.1 c6).1 c7))) (fun c7 => (mc_WP.run (mc_adjs _) 9 (And.intro ⟨rfl, (show ¬ (13 : Nat) = 0 by decide)⟩ (And.intro ⟨rfl, (show ¬ (12 : Nat) = 0 by decide)⟩ (And.intro ⟨rfl, rfl, (show 10 ≤ (12 : Nat) by decide), (by decide), (by decide), (by decide), (show 64 ≤ 64 by decide), (show 64 ≤ 64 by decide)⟩ ((h.1 c6).2 c7)))))))))) (fun c6 => (mc_WP.run (mc_adjs _) 4 (And.intro rfl (And.intro (by decide) (And.intro (by decide) (h.2 c6)))))))))
set_option maxRecDepth 20000 in
theorem bk_131_14 {a1 : Nat} {a2 : Nat} (ha1 : is_R a1) (ha2 : is_F a2)
    (h : Q (.inl none) (I, J, rf_w r, sh_w N, n)) :
    mc_WP (131, 14, [.ref 11, .ref a1, .ref a2], [], (I, J, rf_w r, sh_w N, n), (0, 0)) Q := by
  exact (mc_WP.run (mc_adjs _) 1 (mc_WP.run (mc_adjs _) 1 h))
-- 132 clearUnder(LPaletteReel$Reel;LPaletteReel$Frame;)V inl<=6
set_option maxRecDepth 20000 in
theorem bk_132_0 {a1 : Nat} {a2 : Nat} (ha1 : is_R a1) (ha2 : is_F a2)
    (h : mc_WP (132, 41, [.ref 11, .ref a1, .ref a2, .int (if (I a1 2) < ((I a2 2) + (I a2 4)) then (I a1 2) else ((I a2 2) + (I a2 4))), .int (if (I a1 3) < ((I a2 3) + (I a2 5)) then (I a1 3) else ((I a2 3) + (I a2 5))), .int (I a2 3), .null], [], (I, J, rf_w r, sh_w N, n), (0, 0)) Q) :
    mc_WP (mc_en 132 [.ref 11, .ref a1, .ref a2] (I, J, rf_w r, sh_w N, n)) Q := by
  exact (mc_WP.run (mc_adjs _) 21 (And.intro (wd_F (r := r) (N := N) ha2).1 (And.intro (wd_F (r := r) (N := N) ha2).1 (And.intro (wd_R (r := r) (N := N) ha1).1 (And.intro (wd_F (r := r) (N := N) ha2).1 (And.intro (wd_F (r := r) (N := N) ha2).1 (And.intro (wd_R (r := r) (N := N) ha1).1 (And.intro (wd_F (r := r) (N := N) ha2).1 h))))))))
set_option maxRecDepth 20000 in
theorem bk_132_41 {a1 : Nat} {a2 : Nat} {x3 : Int32} {x4 : Int32} {x5 : Int32} {x6 : Value} (ha1 : is_R a1) (ha2 : is_F a2)
    (h : (x4 ≤ x5 → (Q (.inl none) (I, J, rf_w r, sh_w N, n))) ∧
        (¬ (x4 ≤ x5) →
        (mc_WP (132, 54, [.ref 11, .ref a1, .ref a2, .int x3, .int x4, .int x5, .int (I a2 2)], [], (I, J, rf_w r, sh_w N, n), (0, 0)) Q))) :
    mc_WP (132, 41, [.ref 11, .ref a1, .ref a2, .int x3, .int x4, .int x5, x6], [], (I, J, rf_w r, sh_w N, n), (0, 0)) Q := by
  exact (mc_WP.run (mc_adjs _) 3 (And.intro (fun c4 => (mc_WP.run (mc_adjs _) 1 (h.1 c4))) (fun c4 => (mc_WP.run (mc_adjs _) 3 (And.intro (wd_F (r := r) (N := N) ha2).1 (h.2 c4))))))
set_option maxRecDepth 20000 in
theorem bk_132_54 {a1 : Nat} {a2 : Nat} {x3 : Int32} {x4 : Int32} {x5 : Int32} {x6 : Int32} (ha1 : is_R a1) (ha2 : is_F a2)
    (h : (x3 ≤ x6 →
        (mc_WP (132, 41, [.ref 11, .ref a1, .ref a2, .int x3, .int x4, .int (x5 + (1 : Int32)), .int x6], [], (I, J, rf_w r, sh_w N, n), (0, 0)) Q)) ∧
        (¬ (x3 ≤ x6) →
        (vp_in ((x5 * (8 : Int32)) + x6) 64 ∧ mc_WP (132, 54, [.ref 11, .ref a1, .ref a2, .int x3, .int x4, .int x5, .int (x6 + (1 : Int32))], [], ((mc_up I 12 ((x5 * (8 : Int32)) + x6).toNatClampNeg (-1 : Int32)), J, rf_w r, sh_w N, n), (0, 0)) Q))) :
    mc_WP (132, 54, [.ref 11, .ref a1, .ref a2, .int x3, .int x4, .int x5, .int x6], [], (I, J, rf_w r, sh_w N, n), (0, 0)) Q := by
  exact (mc_WP.run (mc_adjs _) 3 (And.intro (fun c6 => (mc_WP.run (mc_adjs _) 2 (h.1 c6))) (fun c6 => (mc_WP.run (mc_adjs _) 5 (And.intro ⟨rfl, (show ¬ (12 : Nat) = 0 by decide)⟩ (And.intro (by decide) (And.intro (by decide) (mc_inl (mc_WP.run (mc_adjs _) 6 (mc_WP.run (mc_adjs _) 4 (And.intro (wl_st rfl (h.2 c6).1 (show 10 ≤ (12 : Nat) by decide)) (h.2 c6).2)))))))))))
-- 134 rewind()V inl<=6
set_option maxRecDepth 20000 in
theorem bk_134_0
    (h : Q (.inl none) ((mc_up (mc_up I 74 1 (0 : Int32)) 74 2 (1 : Int32)), J, rf_w r, sh_w N, n)) :
    mc_WP (mc_en 134 [.ref 74] (I, J, rf_w r, sh_w N, n)) Q := by
  exact (mc_WP.run (mc_adjs _) 7 (And.intro rfl (And.intro ⟨rfl, (by decide)⟩ h)))
-- 135 refuse()V inl<=6
set_option maxRecDepth 20000 in
theorem bk_135_0
    (h : Q (.inl none) ((mc_up I 74 2 (0 : Int32)), J, rf_w r, sh_w N, n)) :
    mc_WP (mc_en 135 [.ref 74] (I, J, rf_w r, sh_w N, n)) Q := by
  exact (mc_WP.run (mc_adjs _) 4 (And.intro ⟨rfl, (by decide)⟩ h))
-- 136 isDone()Z inl<=6
set_option maxRecDepth 20000 in
theorem bk_136_0
    (h : ((I 74 2) = 0 → (Q (.inl (some (.int (0 : Int32)))) (I, J, rf_w r, sh_w N, n))) ∧
        (¬ ((I 74 2) = 0) →
        ((¬ (I 74 1) = (I 54 1) → (Q (.inl (some (.int (0 : Int32)))) (I, J, rf_w r, sh_w N, n))) ∧
          (¬ (¬ (I 74 1) = (I 54 1)) → (Q (.inl (some (.int (1 : Int32)))) (I, J, rf_w r, sh_w N, n)))))) :
    mc_WP (mc_en 136 [.ref 74] (I, J, rf_w r, sh_w N, n)) Q := by
  exact (mc_WP.run (mc_adjs _) 3 (And.intro rfl (And.intro (fun c7 => (mc_WP.run (mc_adjs _) 2 (And.intro (by decide) (h.1 c7)))) (fun c7 => (mc_WP.run (mc_adjs _) 6 (And.intro rfl (And.intro ⟨rfl, (show ¬ (54 : Nat) = 0 by decide)⟩ (And.intro rfl (And.intro (fun c8 => (mc_WP.run (mc_adjs _) 2 (And.intro (by decide) ((h.2 c7).1 c8)))) (fun c8 => (mc_WP.run (mc_adjs _) 2 (mc_WP.run (mc_adjs _) 1 (And.intro (by decide) ((h.2 c7).2 c8))))))))))))))
-- 137 take()I inl<=6
set_option maxRecDepth 20000 in
theorem bk_137_0
    (h : ((I 74 1) < (I 54 1) →
        (vp_in (I 74 1) 800 ∧ Q (.inl (some (.int (I 55 (I 74 1).toNatClampNeg)))) ((mc_up I 74 1 ((I 74 1) + (1 : Int32))), J, rf_w r, sh_w N, n))) ∧
        (¬ ((I 74 1) < (I 54 1)) →
        (Q (.inl (some (.int (0 : Int32)))) ((mc_up I 74 2 (0 : Int32)), J, rf_w r, sh_w N, n)))) :
    mc_WP (mc_en 137 [.ref 74] (I, J, rf_w r, sh_w N, n)) Q := by
  exact (mc_WP.run (mc_adjs _) 6 (And.intro rfl (And.intro ⟨rfl, (show ¬ (54 : Nat) = 0 by decide)⟩ (And.intro rfl (And.intro (fun c4 => (mc_WP.run (mc_adjs _) 15 (And.intro ⟨rfl, (show ¬ (54 : Nat) = 0 by decide)⟩ (And.intro ⟨rfl, (show ¬ (55 : Nat) = 0 by decide)⟩ (And.intro rfl (And.intro (wl_ld rfl (h.1 c4).1) (And.intro rfl (And.intro rfl (h.1 c4).2)))))))) (fun c4 => (mc_WP.run (mc_adjs _) 5 (And.intro ⟨rfl, (by decide)⟩ (h.2 c4)))))))))
-- 138 takeWithin(II)I inl<=6
set_option maxRecDepth 20000 in
theorem bk_138_0 {x1 : Int32} {x2 : Int32}
    (h : ((I 74 1) < (I 54 1) →
        (vp_in (I 74 1) 800 ∧ ((I 55 (I 74 1).toNatClampNeg) < x1 →
          (Q (.inl (some (.int x1))) ((mc_up (mc_up I 74 1 ((I 74 1) + (1 : Int32))) 74 2 (0 : Int32)), J, rf_w r, sh_w N, n))) ∧
          (¬ ((I 55 (I 74 1).toNatClampNeg) < x1) →
          (((I 55 (I 74 1).toNatClampNeg) ≤ x2 →
            (Q (.inl (some (.int (I 55 (I 74 1).toNatClampNeg)))) ((mc_up I 74 1 ((I 74 1) + (1 : Int32))), J, rf_w r, sh_w N, n))) ∧
            (¬ ((I 55 (I 74 1).toNatClampNeg) ≤ x2) →
            (Q (.inl (some (.int x1))) ((mc_up (mc_up I 74 1 ((I 74 1) + (1 : Int32))) 74 2 (0 : Int32)), J, rf_w r, sh_w N, n))))))) ∧
        (¬ ((I 74 1) < (I 54 1)) →
        (((0 : Int32) < x1 →
          (Q (.inl (some (.int x1))) ((mc_up (mc_up I 74 2 (0 : Int32)) 74 2 (0 : Int32)), J, rf_w r, sh_w N, n))) ∧
          (¬ ((0 : Int32) < x1) →
          (((0 : Int32) ≤ x2 →
            (Q (.inl (some (.int (0 : Int32)))) ((mc_up I 74 2 (0 : Int32)), J, rf_w r, sh_w N, n))) ∧
            (¬ ((0 : Int32) ≤ x2) →
            (Q (.inl (some (.int x1))) ((mc_up (mc_up I 74 2 (0 : Int32)) 74 2 (0 : Int32)), J, rf_w r, sh_w N, n)))))))) :
    mc_WP (mc_en 138 [.ref 74, .int x1, .int x2] (I, J, rf_w r, sh_w N, n)) Q := by
  exact (mc_WP.run (mc_adjs _) 2 (And.intro rfl (And.intro (by decide) (And.intro (by decide) (mc_inl (mc_WP.run (mc_adjs _) 6 (And.intro rfl (And.intro ⟨rfl, (show ¬ (54 : Nat) = 0 by decide)⟩ (And.intro rfl (And.intro (fun c15 => (mc_WP.run (mc_adjs _) 15 (And.intro ⟨rfl, (show ¬ (54 : Nat) = 0 by decide)⟩ (And.intro ⟨rfl, (show ¬ (55 : Nat) = 0 by decide)⟩ (And.intro rfl (And.intro (wl_ld rfl (h.1 c15).1) (And.intro rfl (And.intro rfl (mc_WP.run (mc_adjs _) 4 (And.intro (fun c16 => (mc_WP.run (mc_adjs _) 5 (And.intro ⟨rfl, (by decide)⟩ ((h.1 c15).2.1 c16)))) (fun c16 => (mc_WP.run (mc_adjs _) 3 (And.intro (fun c17 => (mc_WP.run (mc_adjs _) 2 (((h.1 c15).2.2 c16).1 c17))) (fun c17 => (mc_WP.run (mc_adjs _) 5 (And.intro ⟨rfl, (by decide)⟩ (((h.1 c15).2.2 c16).2 c17))))))))))))))))) (fun c15 => (mc_WP.run (mc_adjs _) 5 (And.intro ⟨rfl, (by decide)⟩ (mc_WP.run (mc_adjs _) 4 (And.intro (fun c18 => (mc_WP.run (mc_adjs _) 5 (And.intro ⟨rfl, (by decide)⟩ ((h.2 c15).1 c18)))) (fun c18 => (mc_WP.run (mc_adjs _) 3 (And.intro (fun c19 => (mc_WP.run (mc_adjs _) 2 (((h.2 c15).2 c18).1 c19))) (fun c19 => (mc_WP.run (mc_adjs _) 5 (And.intro ⟨rfl, (by decide)⟩ (((h.2 c15).2 c18).2 c19))))))))))))))))))))))
-- 139 takeBlocks(LPaletteReel$ByteRow;)I inl<=6
set_option maxRecDepth 20000 in
theorem bk_139_0 {a1 : Nat} (ha1 : is_B a1)
    (h : (((mc_up I a1 1 (0 : Int32)) 74 1) < ((mc_up I a1 1 (0 : Int32)) 54 1) →
        (vp_in ((mc_up I a1 1 (0 : Int32)) 74 1) 800 ∧ mc_WP (139, 15, [.ref 74, .ref a1, .int (0 : Int32), .int ((mc_up I a1 1 (0 : Int32)) 55 ((mc_up I a1 1 (0 : Int32)) 74 1).toNatClampNeg), .int (0 : Int32), .null], [], ((mc_up (mc_up I a1 1 (0 : Int32)) 74 1 (((mc_up I a1 1 (0 : Int32)) 74 1) + (1 : Int32))), J, rf_w r, sh_w N, n), (0, 0)) Q)) ∧
        (¬ (((mc_up I a1 1 (0 : Int32)) 74 1) < ((mc_up I a1 1 (0 : Int32)) 54 1)) →
        (mc_WP (139, 15, [.ref 74, .ref a1, .int (0 : Int32), .int (0 : Int32), .int (0 : Int32), .null], [], ((mc_up (mc_up I a1 1 (0 : Int32)) 74 2 (0 : Int32)), J, rf_w r, sh_w N, n), (0, 0)) Q))) :
    mc_WP (mc_en 139 [.ref 74, .ref a1] (I, J, rf_w r, sh_w N, n)) Q := by
  exact (mc_WP.run (mc_adjs _) 7 (And.intro (wd_B (r := r) (N := N) ha1).1 (And.intro rfl (And.intro (by decide) (And.intro (by decide) (mc_inl (mc_WP.run (mc_adjs _) 6 (And.intro rfl (And.intro ⟨rfl, (show ¬ (54 : Nat) = 0 by decide)⟩ (And.intro rfl (And.intro (fun c7 => (mc_WP.run (mc_adjs _) 15 (And.intro ⟨rfl, (show ¬ (54 : Nat) = 0 by decide)⟩ (And.intro ⟨rfl, (show ¬ (55 : Nat) = 0 by decide)⟩ (And.intro rfl (And.intro (wl_ld rfl (h.1 c7).1) (And.intro rfl (And.intro rfl (mc_WP.run (mc_adjs _) 3 (h.1 c7).2))))))))) (fun c7 => (mc_WP.run (mc_adjs _) 5 (And.intro ⟨rfl, (by decide)⟩ (mc_WP.run (mc_adjs _) 3 (h.2 c7))))))))))))))))
set_option maxRecDepth 20000 in
theorem bk_139_15 {a1 : Nat} {x2 : Int32} {x3 : Int32} {x4 : Int32} {x5 : Value} (ha1 : is_B a1)
    (h : ((800 : Int32) ≤ x4 → (Q (.inl (some (.int x2))) (I, J, rf_w r, sh_w N, n))) ∧
        (¬ ((800 : Int32) ≤ x4) →
        ((x3 ≤ 0 → (Q (.inl (some (.int x2))) (I, J, rf_w r, sh_w N, n))) ∧
          (¬ (x3 ≤ 0) →
          (mc_WP (139, 35, [.ref 74, .ref a1, .int (I a1 1), .int x3, .int x4, .int (0 : Int32)], [], (I, J, rf_w r, sh_w N, n), (0, 0)) Q))))) :
    mc_WP (139, 15, [.ref 74, .ref a1, .int x2, .int x3, .int x4, x5], [], (I, J, rf_w r, sh_w N, n), (0, 0)) Q := by
  exact (mc_WP.run (mc_adjs _) 3 (And.intro (fun c6 => (mc_WP.run (mc_adjs _) 2 (h.1 c6))) (fun c6 => (mc_WP.run (mc_adjs _) 2 (And.intro (fun c7 => (mc_WP.run (mc_adjs _) 2 ((h.2 c6).1 c7))) (fun c7 => (mc_WP.run (mc_adjs _) 5 (And.intro (wd_B (r := r) (N := N) ha1).1 ((h.2 c6).2 c7)))))))))
set_option maxRecDepth 20000 in
theorem bk_139_35 {a1 : Nat} {x2 : Int32} {x3 : Int32} {x4 : Int32} {x5 : Int32} (ha1 : is_B a1)
    (h : (x3 ≤ x5 →
        (((I 74 1) < (I 54 1) →
          (vp_in (I 74 1) 800 ∧ mc_WP (139, 15, [.ref 74, .ref a1, .int x2, .int (I 55 (I 74 1).toNatClampNeg), .int (x4 + (1 : Int32)), .int x5], [], ((mc_up I 74 1 ((I 74 1) + (1 : Int32))), J, rf_w r, sh_w N, n), (0, 0)) Q)) ∧
          (¬ ((I 74 1) < (I 54 1)) →
          (mc_WP (139, 15, [.ref 74, .ref a1, .int x2, .int (0 : Int32), .int (x4 + (1 : Int32)), .int x5], [], ((mc_up I 74 2 (0 : Int32)), J, rf_w r, sh_w N, n), (0, 0)) Q)))) ∧
        (¬ (x3 ≤ x5) →
        (((I 74 1) < (I 54 1) →
          (vp_in (I 74 1) 800 ∧ ((Int32.ofNat (sh_w N (a1 + 1)).2) ≤ ((mc_up I 74 1 ((I 74 1) + (1 : Int32))) a1 1) →
            (mc_WP (139, 35, [.ref 74, .ref a1, .int x2, .int x3, .int x4, .int (x5 + (1 : Int32))], [], ((mc_up I 74 1 ((I 74 1) + (1 : Int32))), J, rf_w r, sh_w N, n), (0, 0)) Q)) ∧
            (¬ ((Int32.ofNat (sh_w N (a1 + 1)).2) ≤ ((mc_up I 74 1 ((I 74 1) + (1 : Int32))) a1 1)) →
            (vp_in ((mc_up I 74 1 ((I 74 1) + (1 : Int32))) a1 1) (wd_cap a1) ∧ mc_WP (139, 35, [.ref 74, .ref a1, .int x2, .int x3, .int x4, .int (x5 + (1 : Int32))], [], ((mc_up (mc_up (mc_up I 74 1 ((I 74 1) + (1 : Int32))) (a1 + 1) ((mc_up I 74 1 ((I 74 1) + (1 : Int32))) a1 1).toNatClampNeg (I 55 (I 74 1).toNatClampNeg)) a1 1 (((mc_up (mc_up I 74 1 ((I 74 1) + (1 : Int32))) (a1 + 1) ((mc_up I 74 1 ((I 74 1) + (1 : Int32))) a1 1).toNatClampNeg (I 55 (I 74 1).toNatClampNeg)) a1 1) + (1 : Int32))), J, rf_w r, sh_w N, n), (0, 0)) Q)))) ∧
          (¬ ((I 74 1) < (I 54 1)) →
          (((Int32.ofNat (sh_w N (a1 + 1)).2) ≤ ((mc_up I 74 2 (0 : Int32)) a1 1) →
            (mc_WP (139, 35, [.ref 74, .ref a1, .int x2, .int x3, .int x4, .int (x5 + (1 : Int32))], [], ((mc_up I 74 2 (0 : Int32)), J, rf_w r, sh_w N, n), (0, 0)) Q)) ∧
            (¬ ((Int32.ofNat (sh_w N (a1 + 1)).2) ≤ ((mc_up I 74 2 (0 : Int32)) a1 1)) →
            (vp_in ((mc_up I 74 2 (0 : Int32)) a1 1) (wd_cap a1) ∧ mc_WP (139, 35, [.ref 74, .ref a1, .int x2, .int x3, .int x4, .int (x5 + (1 : Int32))], [], ((mc_up (mc_up (mc_up I 74 2 (0 : Int32)) (a1 + 1) ((mc_up I 74 2 (0 : Int32)) a1 1).toNatClampNeg (0 : Int32)) a1 1 (((mc_up (mc_up I 74 2 (0 : Int32)) (a1 + 1) ((mc_up I 74 2 (0 : Int32)) a1 1).toNatClampNeg (0 : Int32)) a1 1) + (1 : Int32))), J, rf_w r, sh_w N, n), (0, 0)) Q))))))) :
    mc_WP (139, 35, [.ref 74, .ref a1, .int x2, .int x3, .int x4, .int x5], [], (I, J, rf_w r, sh_w N, n), (0, 0)) Q := by
  exact (mc_WP.run (mc_adjs _) 3 (And.intro (fun c28 => (mc_WP.run (mc_adjs _) 2 (And.intro rfl (And.intro (by decide) (And.intro (by decide) (mc_inl (mc_WP.run (mc_adjs _) 6 (And.intro rfl (And.intro ⟨rfl, (show ¬ (54 : Nat) = 0 by decide)⟩ (And.intro rfl (And.intro (fun c29 => (mc_WP.run (mc_adjs _) 15 (And.intro ⟨rfl, (show ¬ (54 : Nat) = 0 by decide)⟩ (And.intro ⟨rfl, (show ¬ (55 : Nat) = 0 by decide)⟩ (And.intro rfl (And.intro (wl_ld rfl ((h.1 c28).1 c29).1) (And.intro rfl (And.intro rfl (mc_WP.run (mc_adjs _) 3 ((h.1 c28).1 c29).2))))))))) (fun c29 => (mc_WP.run (mc_adjs _) 5 (And.intro ⟨rfl, (by decide)⟩ (mc_WP.run (mc_adjs _) 3 ((h.1 c28).2 c29)))))))))))))))) (fun c28 => (mc_WP.run (mc_adjs _) 3 (And.intro rfl (And.intro (by decide) (And.intro (by decide) (mc_inl (mc_WP.run (mc_adjs _) 6 (And.intro rfl (And.intro ⟨rfl, (show ¬ (54 : Nat) = 0 by decide)⟩ (And.intro rfl (And.intro (fun c30 => (mc_WP.run (mc_adjs _) 15 (And.intro ⟨rfl, (show ¬ (54 : Nat) = 0 by decide)⟩ (And.intro ⟨rfl, (show ¬ (55 : Nat) = 0 by decide)⟩ (And.intro rfl (And.intro (wl_ld rfl ((h.2 c28).1 c30).1) (And.intro rfl (And.intro rfl (mc_WP.run (mc_adjs _) 1 (And.intro (wd_B (r := r) (N := N) ha1).1 (And.intro (by decide) (And.intro (by decide) (mc_inl (by have g12 := ((h.2 c28).1 c30).2; have e13 : rf_w r a1 0 = (a1 + 1) := (wd_B (r := r) (N := N) ha1).2.1; have s14 : sh_w N (rf_w r a1 0) = (2, (wd_cap a1)) := (by rw [e13]; exact (wd_B (r := r) (N := N) ha1).2.2); have ts14 : 10 ≤ rf_w r a1 0 := (by rw [e13]; exact wd_tB ha1 _); (try rw [← e13] at g12); exact (mc_WP.run (mc_adjs _) 6 (And.intro (wd_B (r := r) (N := N) ha1).1 (And.intro ⟨(wd_B (r := r) (N := N) ha1).1, (wd_Z s14)⟩ (And.intro (wl_len s14 (by decide) (by decide)) (And.intro (fun c31 => (mc_WP.run (mc_adjs _) 1 (mc_WP.run (mc_adjs _) 2 (g12.1 c31)))) (fun c31 => (mc_WP.run (mc_adjs _) 13 (And.intro ⟨(wd_B (r := r) (N := N) ha1).1, (wd_Z s14)⟩ (And.intro (wd_B (r := r) (N := N) ha1).1 (And.intro (wl_st s14 (g12.2 c31).1 ts14) (And.intro (wd_B (r := r) (N := N) ha1).1 (And.intro (wd_B (r := r) (N := N) ha1).1 (mc_WP.run (mc_adjs _) 2 (g12.2 c31).2))))))))))))))))))))))))))) (fun c30 => (mc_WP.run (mc_adjs _) 5 (And.intro ⟨rfl, (by decide)⟩ (mc_WP.run (mc_adjs _) 1 (And.intro (wd_B (r := r) (N := N) ha1).1 (And.intro (by decide) (And.intro (by decide) (mc_inl (by have g21 := ((h.2 c28).2 c30); have e22 : rf_w r a1 0 = (a1 + 1) := (wd_B (r := r) (N := N) ha1).2.1; have s23 : sh_w N (rf_w r a1 0) = (2, (wd_cap a1)) := (by rw [e22]; exact (wd_B (r := r) (N := N) ha1).2.2); have ts23 : 10 ≤ rf_w r a1 0 := (by rw [e22]; exact wd_tB ha1 _); (try rw [← e22] at g21); exact (mc_WP.run (mc_adjs _) 6 (And.intro (wd_B (r := r) (N := N) ha1).1 (And.intro ⟨(wd_B (r := r) (N := N) ha1).1, (wd_Z s23)⟩ (And.intro (wl_len s23 (by decide) (by decide)) (And.intro (fun c32 => (mc_WP.run (mc_adjs _) 1 (mc_WP.run (mc_adjs _) 2 (g21.1 c32)))) (fun c32 => (mc_WP.run (mc_adjs _) 13 (And.intro ⟨(wd_B (r := r) (N := N) ha1).1, (wd_Z s23)⟩ (And.intro (wd_B (r := r) (N := N) ha1).1 (And.intro (wl_st s23 (g21.2 c32).1 ts23) (And.intro (wd_B (r := r) (N := N) ha1).1 (And.intro (wd_B (r := r) (N := N) ha1).1 (mc_WP.run (mc_adjs _) 2 (g21.2 c32).2)))))))))))))))))))))))))))))))))))
-- 140 begin(IIII)V inl<=6
set_option maxRecDepth 20000 in
theorem bk_140_0 {a0 : Nat} {x1 : Int32} {x2 : Int32} {x3 : Int32} {x4 : Int32} (ha0 : is_F a0)
    (h : ∃ R : mc_Q, mc_WP (mc_en 156 [.ref (a0 + 2), .int (0 : Int32)] ((mc_up (mc_up (mc_up (mc_up (mc_up (mc_up (mc_up (mc_up I a0 2 x1) a0 3 x2) a0 4 x3) a0 5 x4) a0 6 (0 : Int32)) a0 7 (0 : Int32)) a0 8 (-1 : Int32)) a0 9 (0 : Int32)), J, rf_w r, sh_w N, n)) R ∧ (∀ v t, R (.inl v) t → mc_WP (140, 49, [.ref a0, .int x1, .int x2, .int x3, .int x4], v.toList ++ [], t, (0, 0)) Q) ∧ (∀ k t, R (.inr k) t → Q (.inr k) t)) :
    mc_WP (mc_en 140 [.ref a0, .int x1, .int x2, .int x3, .int x4] (I, J, rf_w r, sh_w N, n)) Q := by
  exact (by have g1 := h; have e2 : rf_w r a0 1 = (a0 + 2) := (wd_F (r := r) (N := N) ha0).2.2.1; have s3 : sh_w N (rf_w r a0 1) = (1, 6) := (by rw [e2]; exact (wd_F (r := r) (N := N) ha0).2.2.2.2.1); have k4 : is_P (rf_w r a0 1) := (by rw [e2]; exact (wd_F (r := r) (N := N) ha0).2.2.2.2.2); (try rw [← e2] at g1); exact (mc_WP.run (mc_adjs _) 28 (And.intro (wd_F (r := r) (N := N) ha0).1 (And.intro (wd_F (r := r) (N := N) ha0).1 (And.intro (wd_F (r := r) (N := N) ha0).1 (And.intro (wd_F (r := r) (N := N) ha0).1 (And.intro (wd_F (r := r) (N := N) ha0).1 (And.intro (wd_F (r := r) (N := N) ha0).1 (And.intro (wd_F (r := r) (N := N) ha0).1 (And.intro ⟨(wd_F (r := r) (N := N) ha0).1, (by decide)⟩ (And.intro ⟨(wd_F (r := r) (N := N) ha0).1, (wd_Z s3)⟩ (And.intro s3 (And.intro (by decide) (And.intro (by decide) g1))))))))))))))
set_option maxRecDepth 20000 in
theorem bk_140_49 {a0 : Nat} {x1 : Int32} {x2 : Int32} {x3 : Int32} {x4 : Int32} (ha0 : is_F a0)
    (h : ∃ R : mc_Q, mc_WP (mc_en 205 [.ref (a0 + 1), .int (0 : Int32)] (I, J, rf_w r, sh_w N, n)) R ∧ (∀ v t, R (.inl v) t → mc_WP (140, 57, [.ref a0, .int x1, .int x2, .int x3, .int x4], v.toList ++ [], t, (0, 0)) Q) ∧ (∀ k t, R (.inr k) t → Q (.inr k) t)) :
    mc_WP (140, 49, [.ref a0, .int x1, .int x2, .int x3, .int x4], [], (I, J, rf_w r, sh_w N, n), (0, 0)) Q := by
  exact (by have g1 := h; have e2 : rf_w r a0 0 = (a0 + 1) := (wd_F (r := r) (N := N) ha0).2.1; have s3 : sh_w N (rf_w r a0 0) = (2, 64) := (by rw [e2]; exact (wd_F (r := r) (N := N) ha0).2.2.2.1); have ts3 : 10 ≤ rf_w r a0 0 := (by rw [e2]; exact wd_tF ha0 _); (try rw [← e2] at g1); exact (mc_WP.run (mc_adjs _) 4 (And.intro ⟨(wd_F (r := r) (N := N) ha0).1, (wd_Z s3)⟩ (And.intro (by decide) (And.intro (by decide) g1)))))
set_option maxRecDepth 20000 in
theorem bk_140_57 {a0 : Nat} {x1 : Int32} {x2 : Int32} {x3 : Int32} {x4 : Int32} (ha0 : is_F a0)
    (h : Q (.inl none) (I, J, rf_w r, sh_w N, n)) :
    mc_WP (140, 57, [.ref a0, .int x1, .int x2, .int x3, .int x4], [], (I, J, rf_w r, sh_w N, n), (0, 0)) Q := by
  exact (mc_WP.run (mc_adjs _) 1 h)
-- 141 fitsIn(I)Z inl<=6
set_option maxRecDepth 20000 in
theorem bk_141_0 {a0 : Nat} {x1 : Int32} (ha0 : is_F a0)
    (h : mc_WP (141, 7, [.ref a0, .int x1, .int (I a0 8), .int (0 : Int32)], [], (I, J, rf_w r, sh_w N, n), (0, 0)) Q) :
    mc_WP (mc_en 141 [.ref a0, .int x1] (I, J, rf_w r, sh_w N, n)) Q := by
  exact (mc_WP.run (mc_adjs _) 5 (And.intro (wd_F (r := r) (N := N) ha0).1 h))
set_option maxRecDepth 20000 in
theorem bk_141_7 {a0 : Nat} {x1 : Int32} {x2 : Int32} {x3 : Int32} (ha0 : is_F a0)
    (h : ((64 : Int32) ≤ x3 →
        ((x1 ≤ x2 → (Q (.inl (some (.int (0 : Int32)))) (I, J, rf_w r, sh_w N, n))) ∧
          (¬ (x1 ≤ x2) → (Q (.inl (some (.int (1 : Int32)))) (I, J, rf_w r, sh_w N, n))))) ∧
        (¬ ((64 : Int32) ≤ x3) →
        (vp_in x3 64 ∧ mc_WP (141, 7, [.ref a0, .int x1, .int (if x2 < (I (a0 + 1) x3.toNatClampNeg) then (I (a0 + 1) x3.toNatClampNeg) else x2), .int (x3 + (1 : Int32))], [], (I, J, rf_w r, sh_w N, n), (0, 0)) Q))) :
    mc_WP (141, 7, [.ref a0, .int x1, .int x2, .int x3], [], (I, J, rf_w r, sh_w N, n), (0, 0)) Q := by
  exact (mc_WP.run (mc_adjs _) 3 (And.intro (fun c9 => (mc_WP.run (mc_adjs _) 3 (And.intro (fun c10 => (mc_WP.run (mc_adjs _) 2 (And.intro (by decide) ((h.1 c9).1 c10)))) (fun c10 => (mc_WP.run (mc_adjs _) 2 (mc_WP.run (mc_adjs _) 1 (And.intro (by decide) ((h.1 c9).2 c10)))))))) (fun c9 => (by have g6 := (h.2 c9); have e7 : rf_w r a0 0 = (a0 + 1) := (wd_F (r := r) (N := N) ha0).2.1; have s8 : sh_w N (rf_w r a0 0) = (2, 64) := (by rw [e7]; exact (wd_F (r := r) (N := N) ha0).2.2.2.1); have ts8 : 10 ≤ rf_w r a0 0 := (by rw [e7]; exact wd_tF ha0 _); (try rw [← e7] at g6); exact (mc_WP.run (mc_adjs _) 9 (And.intro ⟨(wd_F (r := r) (N := N) ha0).1, (wd_Z s8)⟩ (And.intro (wl_ld s8 g6.1) g6.2)))))))
-- 142 tell(I)I inl<=6
set_option maxRecDepth 20000 in
theorem bk_142_0 {a0 : Nat} {x1 : Int32} (ha0 : is_F a0)
    (h : (x1.toInt = 0 → (Q (.inl (some (.int (I a0 2)))) (I, J, rf_w r, sh_w N, n))) ∧
        (¬ x1.toInt = 0 → ((x1.toInt = 1 → (Q (.inl (some (.int (I a0 3)))) (I, J, rf_w r, sh_w N, n))) ∧
        (¬ x1.toInt = 1 → ((x1.toInt = 2 → (Q (.inl (some (.int (I a0 4)))) (I, J, rf_w r, sh_w N, n))) ∧
        (¬ x1.toInt = 2 → ((x1.toInt = 3 → (Q (.inl (some (.int (I a0 5)))) (I, J, rf_w r, sh_w N, n))) ∧
        (¬ x1.toInt = 3 → ((x1.toInt = 4 → (Q (.inl (some (.int (I (a0 + 2) 1)))) (I, J, rf_w r, sh_w N, n))) ∧
        (¬ x1.toInt = 4 → ((x1.toInt = 5 → (Q (.inl (some (.int (I a0 6)))) (I, J, rf_w r, sh_w N, n))) ∧
        (¬ x1.toInt = 5 → ((x1.toInt = 6 → (Q (.inl (some (.int (I a0 7)))) (I, J, rf_w r, sh_w N, n))) ∧
        (¬ x1.toInt = 6 → ((x1.toInt = 7 → (Q (.inl (some (.int (I a0 8)))) (I, J, rf_w r, sh_w N, n))) ∧
        (¬ x1.toInt = 7 → (((I a0 9) = 0 → (Q (.inl (some (.int (0 : Int32)))) (I, J, rf_w r, sh_w N, n))) ∧
          (¬ ((I a0 9) = 0) → (Q (.inl (some (.int (1 : Int32)))) (I, J, rf_w r, sh_w N, n)))))))))))))))))))) :
    mc_WP (mc_en 142 [.ref a0, .int x1] (I, J, rf_w r, sh_w N, n)) Q := by
  exact (mc_WP.run (mc_adjs _) 2 (And.intro (fun c17 => (mc_WP.run (mc_adjs _) 3 (And.intro (wd_F (r := r) (N := N) ha0).1 (h.1 c17)))) (fun c17 => (And.intro (fun c18 => (mc_WP.run (mc_adjs _) 3 (And.intro (wd_F (r := r) (N := N) ha0).1 ((h.2 c17).1 c18)))) (fun c18 => (And.intro (fun c19 => (mc_WP.run (mc_adjs _) 3 (And.intro (wd_F (r := r) (N := N) ha0).1 (((h.2 c17).2 c18).1 c19)))) (fun c19 => (And.intro (fun c20 => (mc_WP.run (mc_adjs _) 3 (And.intro (wd_F (r := r) (N := N) ha0).1 ((((h.2 c17).2 c18).2 c19).1 c20)))) (fun c20 => (And.intro (fun c21 => (by have g6 := (((((h.2 c17).2 c18).2 c19).2 c20).1 c21); have e7 : rf_w r a0 1 = (a0 + 2) := (wd_F (r := r) (N := N) ha0).2.2.1; have s8 : sh_w N (rf_w r a0 1) = (1, 6) := (by rw [e7]; exact (wd_F (r := r) (N := N) ha0).2.2.2.2.1); have k9 : is_P (rf_w r a0 1) := (by rw [e7]; exact (wd_F (r := r) (N := N) ha0).2.2.2.2.2); (try rw [← e7] at g6); exact (mc_WP.run (mc_adjs _) 4 (And.intro ⟨(wd_F (r := r) (N := N) ha0).1, (wd_Z s8)⟩ (And.intro s8 g6))))) (fun c21 => (And.intro (fun c22 => (mc_WP.run (mc_adjs _) 3 (And.intro (wd_F (r := r) (N := N) ha0).1 ((((((h.2 c17).2 c18).2 c19).2 c20).2 c21).1 c22)))) (fun c22 => (And.intro (fun c23 => (mc_WP.run (mc_adjs _) 3 (And.intro (wd_F (r := r) (N := N) ha0).1 (((((((h.2 c17).2 c18).2 c19).2 c20).2 c21).2 c22).1 c23)))) (fun c23 => (And.intro (fun c24 => (mc_WP.run (mc_adjs _) 3 (And.intro (wd_F (r := r) (N := N) ha0).1 ((((((((h.2 c17).2 c18).2 c19).2 c20).2 c21).2 c22).2 c23).1 c24)))) (fun c24 => (mc_WP.run (mc_adjs _) 3 (And.intro (wd_F (r := r) (N := N) ha0).1 (And.intro (fun c25 => (mc_WP.run (mc_adjs _) 2 (((((((((h.2 c17).2 c18).2 c19).2 c20).2 c21).2 c22).2 c23).2 c24).1 c25))) (fun c25 => (mc_WP.run (mc_adjs _) 2 (mc_WP.run (mc_adjs _) 1 (((((((((h.2 c17).2 c18).2 c19).2 c20).2 c21).2 c22).2 c23).2 c24).2 c25))))))))))))))))))))))))
-- 143 listPlaces([I)I inl<=6
set_option maxRecDepth 20000 in
theorem bk_143_0 {a0 : Nat} {a1 : Nat} {a1z : Nat} (ha0 : is_F a0) (ha1 : sh_w N a1 = (2, a1z))
    (h : ((I a0 9) = 0 →
        (mc_WP (143, 21, [.ref a0, .ref a1, .int (0 : Int32), .int (1 : Int32), .int (0 : Int32), .null, .null, .null], [], (I, J, rf_w r, sh_w N, n), (0, 0)) Q)) ∧
        (¬ ((I a0 9) = 0) →
        (mc_WP (143, 21, [.ref a0, .ref a1, .int (0 : Int32), .int (Int32.ofNat 4), .int (0 : Int32), .null, .null, .null], [], (I, J, rf_w r, sh_w N, n), (0, 0)) Q))) :
    mc_WP (mc_en 143 [.ref a0, .ref a1] (I, J, rf_w r, sh_w N, n)) Q := by
  exact (mc_WP.run (mc_adjs _) 5 (And.intro (wd_F (r := r) (N := N) ha0).1 (And.intro (fun c5 => (mc_WP.run (mc_adjs _) 4 (h.1 c5))) (fun c5 => (mc_WP.run (mc_adjs _) 3 (And.intro (wl_len rfl (by decide) (by decide)) (mc_WP.run (mc_adjs _) 3 (h.2 c5))))))))
set_option maxRecDepth 20000 in
theorem bk_143_21 {a0 : Nat} {a1 : Nat} {a1z : Nat} {x2 : Int32} {x3 : Int32} {x4 : Int32} {x5 : Value} {x6 : Value} {x7 : Value} (ha0 : is_F a0) (ha1 : sh_w N a1 = (2, a1z))
    (h : (x3 ≤ x4 → (Q (.inl (some (.int x2))) (I, J, rf_w r, sh_w N, n))) ∧
        (¬ (x3 ≤ x4) →
        (((I a0 9) = 0 →
          (vp_in x4 4 ∧ mc_WP (143, 54, [.ref a0, .ref a1, .int x2, .int x3, .int x4, .int (1 : Int32), .int (I 2 x4.toNatClampNeg), x7], [], (I, J, rf_w r, sh_w N, n), (0, 0)) Q)) ∧
          (¬ ((I a0 9) = 0) →
          (vp_in x4 4 ∧ vp_in x4 4 ∧ mc_WP (143, 54, [.ref a0, .ref a1, .int x2, .int x3, .int x4, .int (I 3 x4.toNatClampNeg), .int (I 2 x4.toNatClampNeg), x7], [], (I, J, rf_w r, sh_w N, n), (0, 0)) Q))))) :
    mc_WP (143, 21, [.ref a0, .ref a1, .int x2, .int x3, .int x4, x5, x6, x7], [], (I, J, rf_w r, sh_w N, n), (0, 0)) Q := by
  exact (mc_WP.run (mc_adjs _) 3 (And.intro (fun c7 => (mc_WP.run (mc_adjs _) 2 (h.1 c7))) (fun c7 => (mc_WP.run (mc_adjs _) 3 (And.intro (wd_F (r := r) (N := N) ha0).1 (And.intro (fun c8 => (mc_WP.run (mc_adjs _) 6 (And.intro (wl_ld rfl ((h.2 c7).1 c8).1) ((h.2 c7).1 c8).2))) (fun c8 => (mc_WP.run (mc_adjs _) 4 (And.intro (wl_ld rfl ((h.2 c7).2 c8).1) (mc_WP.run (mc_adjs _) 5 (And.intro (wl_ld rfl ((h.2 c7).2 c8).2.1) ((h.2 c7).2 c8).2.2)))))))))))
set_option maxRecDepth 20000 in
theorem bk_143_54 {a0 : Nat} {a1 : Nat} {a1z : Nat} {x2 : Int32} {x3 : Int32} {x4 : Int32} {x5 : Int32} {x6 : Int32} {x7 : Value} (ha0 : is_F a0) (ha1 : sh_w N a1 = (2, a1z))
    (h : ((I a0 5) ≤ x6 →
        (mc_WP (143, 21, [.ref a0, .ref a1, .int x2, .int x3, .int (x4 + (1 : Int32)), .int x5, .int x6, x7], [], (I, J, rf_w r, sh_w N, n), (0, 0)) Q)) ∧
        (¬ ((I a0 5) ≤ x6) →
        (mc_WP (143, 66, [.ref a0, .ref a1, .int x2, .int x3, .int x4, .int x5, .int x6, .int (0 : Int32)], [], (I, J, rf_w r, sh_w N, n), (0, 0)) Q))) :
    mc_WP (143, 54, [.ref a0, .ref a1, .int x2, .int x3, .int x4, .int x5, .int x6, x7], [], (I, J, rf_w r, sh_w N, n), (0, 0)) Q := by
  exact (mc_WP.run (mc_adjs _) 4 (And.intro (wd_F (r := r) (N := N) ha0).1 (And.intro (fun c4 => (mc_WP.run (mc_adjs _) 2 (h.1 c4))) (fun c4 => (mc_WP.run (mc_adjs _) 2 (h.2 c4))))))
set_option maxRecDepth 20000 in
theorem bk_143_66 {a0 : Nat} {a1 : Nat} {a1z : Nat} {x2 : Int32} {x3 : Int32} {x4 : Int32} {x5 : Int32} {x6 : Int32} {x7 : Int32} (ha0 : is_F a0) (ha1 : sh_w N a1 = (2, a1z)) (ga1 : 10 ≤ a1)
    (h : ((I a0 4) ≤ x7 →
        (mc_WP (143, 54, [.ref a0, .ref a1, .int x2, .int x3, .int x4, .int x5, .int (x6 + x5), .int x7], [], (I, J, rf_w r, sh_w N, n), (0, 0)) Q)) ∧
        (¬ ((I a0 4) ≤ x7) →
        (vp_in x2 a1z ∧ mc_WP (143, 66, [.ref a0, .ref a1, .int (x2 + (1 : Int32)), .int x3, .int x4, .int x5, .int x6, .int (x7 + (1 : Int32))], [], ((mc_up I a1 x2.toNatClampNeg ((x6 * (8 : Int32)) + x7)), J, rf_w r, sh_w N, n), (0, 0)) Q))) :
    mc_WP (143, 66, [.ref a0, .ref a1, .int x2, .int x3, .int x4, .int x5, .int x6, .int x7], [], (I, J, rf_w r, sh_w N, n), (0, 0)) Q := by
  exact (mc_WP.run (mc_adjs _) 4 (And.intro (wd_F (r := r) (N := N) ha0).1 (And.intro (fun c6 => (mc_WP.run (mc_adjs _) 5 (h.1 c6))) (fun c6 => (mc_WP.run (mc_adjs _) 5 (And.intro (by decide) (And.intro (by decide) (mc_inl (mc_WP.run (mc_adjs _) 6 (mc_WP.run (mc_adjs _) 4 (And.intro (wl_st ha1 (h.2 c6).1 ga1) (h.2 c6).2)))))))))))
-- 144 packReel(LPaletteReel$Reel;)V inl<=1
set_option maxRecDepth 20000 in
theorem bk_144_0 {a1 : Nat} (ha1 : is_R a1)
    (h : ∃ R : mc_Q, mc_WP (mc_en 126 [.ref 54, .int (80 : Int32)] (I, J, rf_w r, sh_w N, n)) R ∧ (∀ v t, R (.inl v) t → mc_WP (144, 9, [.ref 56, .ref a1, .null, .null], v.toList ++ [], t, (0, 0)) Q) ∧ (∀ k t, R (.inr k) t → Q (.inr k) t)) :
    mc_WP (mc_en 144 [.ref 56, .ref a1] (I, J, rf_w r, sh_w N, n)) Q := by
  exact (mc_WP.run (mc_adjs _) 4 (And.intro ⟨rfl, (show ¬ (54 : Nat) = 0 by decide)⟩ (And.intro rfl (And.intro (by decide) (And.intro (by decide) h)))))
set_option maxRecDepth 20000 in
theorem bk_144_9 {a1 : Nat} (ha1 : is_R a1)
    (h : ∃ R : mc_Q, mc_WP (mc_en 126 [.ref 54, .int (49 : Int32)] (I, J, rf_w r, sh_w N, n)) R ∧ (∀ v t, R (.inl v) t → mc_WP (144, 18, [.ref 56, .ref a1, .null, .null], v.toList ++ [], t, (0, 0)) Q) ∧ (∀ k t, R (.inr k) t → Q (.inr k) t)) :
    mc_WP (144, 9, [.ref 56, .ref a1, .null, .null], [], (I, J, rf_w r, sh_w N, n), (0, 0)) Q := by
  exact (mc_WP.run (mc_adjs _) 4 (And.intro ⟨rfl, (show ¬ (54 : Nat) = 0 by decide)⟩ (And.intro rfl (And.intro (by decide) (And.intro (by decide) h)))))
set_option maxRecDepth 20000 in
theorem bk_144_18 {a1 : Nat} (ha1 : is_R a1)
    (h : ∃ R : mc_Q, mc_WP (mc_en 126 [.ref 54, .int (I a1 2)] (I, J, rf_w r, sh_w N, n)) R ∧ (∀ v t, R (.inl v) t → mc_WP (144, 29, [.ref 56, .ref a1, .null, .null], v.toList ++ [], t, (0, 0)) Q) ∧ (∀ k t, R (.inr k) t → Q (.inr k) t)) :
    mc_WP (144, 18, [.ref 56, .ref a1, .null, .null], [], (I, J, rf_w r, sh_w N, n), (0, 0)) Q := by
  exact (mc_WP.run (mc_adjs _) 5 (And.intro ⟨rfl, (show ¬ (54 : Nat) = 0 by decide)⟩ (And.intro (wd_R (r := r) (N := N) ha1).1 (And.intro rfl (And.intro (by decide) (And.intro (by decide) h))))))
set_option maxRecDepth 20000 in
theorem bk_144_29 {a1 : Nat} (ha1 : is_R a1)
    (h : ∃ R : mc_Q, mc_WP (mc_en 126 [.ref 54, .int (I a1 3)] (I, J, rf_w r, sh_w N, n)) R ∧ (∀ v t, R (.inl v) t → mc_WP (144, 40, [.ref 56, .ref a1, .null, .null], v.toList ++ [], t, (0, 0)) Q) ∧ (∀ k t, R (.inr k) t → Q (.inr k) t)) :
    mc_WP (144, 29, [.ref 56, .ref a1, .null, .null], [], (I, J, rf_w r, sh_w N, n), (0, 0)) Q := by
  exact (mc_WP.run (mc_adjs _) 5 (And.intro ⟨rfl, (show ¬ (54 : Nat) = 0 by decide)⟩ (And.intro (wd_R (r := r) (N := N) ha1).1 (And.intro rfl (And.intro (by decide) (And.intro (by decide) h))))))
set_option maxRecDepth 20000 in
theorem bk_144_40 {a1 : Nat} (ha1 : is_R a1)
    (h : ∃ R : mc_Q, mc_WP (mc_en 55 [.int (I (a1 + 1) 1)] (I, J, rf_w r, sh_w N, n)) R ∧ (∀ v t, R (.inl v) t → mc_WP (144, 54, [.ref 56, .ref a1, .null, .null], v.toList ++ [.ref 54], t, (0, 0)) Q) ∧ (∀ k t, R (.inr k) t → Q (.inr k) t)) :
    mc_WP (144, 40, [.ref 56, .ref a1, .null, .null], [], (I, J, rf_w r, sh_w N, n), (0, 0)) Q := by
  exact (by have g1 := h; have e2 : rf_w r a1 0 = (a1 + 1) := (wd_R (r := r) (N := N) ha1).2.1; have s3 : sh_w N (rf_w r a1 0) = (1, 6) := (by rw [e2]; exact (wd_R (r := r) (N := N) ha1).2.2.2.1); have k4 : is_P (rf_w r a1 0) := (by rw [e2]; exact (wd_R (r := r) (N := N) ha1).2.2.2.2.1); (try rw [← e2] at g1); exact (mc_WP.run (mc_adjs _) 6 (And.intro ⟨rfl, (show ¬ (54 : Nat) = 0 by decide)⟩ (And.intro ⟨(wd_R (r := r) (N := N) ha1).1, (wd_Z s3)⟩ (And.intro s3 (And.intro (by decide) (And.intro (by decide) g1)))))))
set_option maxRecDepth 20000 in
theorem bk_144_54 {a1 : Nat} {b0 : Nat} {y1 : Int32} (ha1 : is_R a1) (hb0 : is_B b0)
    (h : ∃ R : mc_Q, mc_WP (mc_en 126 [.ref b0, .int (y1 - (1 : Int32))] (I, J, rf_w r, sh_w N, n)) R ∧ (∀ v t, R (.inl v) t → mc_WP (144, 59, [.ref 56, .ref a1, .null, .null], v.toList ++ [], t, (0, 0)) Q) ∧ (∀ k t, R (.inr k) t → Q (.inr k) t)) :
    mc_WP (144, 54, [.ref 56, .ref a1, .null, .null], [.int y1, .ref b0], (I, J, rf_w r, sh_w N, n), (0, 0)) Q := by
  exact (mc_WP.run (mc_adjs _) 3 (And.intro (wd_B (r := r) (N := N) hb0).1 (And.intro (by decide) (And.intro (by decide) h))))
set_option maxRecDepth 20000 in
theorem bk_144_59 {a1 : Nat} (ha1 : is_R a1)
    (h : ∃ R : mc_Q, mc_WP (mc_en 145 [.ref 56, .ref (a1 + 1)] (I, J, rf_w r, sh_w N, n)) R ∧ (∀ v t, R (.inl v) t → mc_WP (144, 67, [.ref 56, .ref a1, .null, .null], v.toList ++ [], t, (0, 0)) Q) ∧ (∀ k t, R (.inr k) t → Q (.inr k) t)) :
    mc_WP (144, 59, [.ref 56, .ref a1, .null, .null], [], (I, J, rf_w r, sh_w N, n), (0, 0)) Q := by
  exact (by have g1 := h; have e2 : rf_w r a1 0 = (a1 + 1) := (wd_R (r := r) (N := N) ha1).2.1; have s3 : sh_w N (rf_w r a1 0) = (1, 6) := (by rw [e2]; exact (wd_R (r := r) (N := N) ha1).2.2.2.1); have k4 : is_P (rf_w r a1 0) := (by rw [e2]; exact (wd_R (r := r) (N := N) ha1).2.2.2.2.1); (try rw [← e2] at g1); exact (mc_WP.run (mc_adjs _) 4 (And.intro ⟨(wd_R (r := r) (N := N) ha1).1, (wd_Z s3)⟩ (And.intro rfl (And.intro (by decide) (And.intro (by decide) g1))))))
set_option maxRecDepth 20000 in
theorem bk_144_67 {a1 : Nat} (ha1 : is_R a1)
    (h : mc_WP (144, 69, [.ref 56, .ref a1, .int (0 : Int32), .null], [], (I, J, rf_w r, sh_w N, n), (0, 0)) Q) :
    mc_WP (144, 67, [.ref 56, .ref a1, .null, .null], [], (I, J, rf_w r, sh_w N, n), (0, 0)) Q := by
  exact (mc_WP.run (mc_adjs _) 2 h)
set_option maxRecDepth 20000 in
theorem bk_144_69 {a1 : Nat} {x2 : Int32} {x3 : Value} (ha1 : is_R a1)
    (h : ((I a1 4) ≤ x2 →
        (∃ R : mc_Q, mc_WP (mc_en 126 [.ref 54, .int (59 : Int32)] (I, J, rf_w r, sh_w N, n)) R ∧ (∀ v t, R (.inl v) t → mc_WP (144, 122, [.ref 56, .ref a1, .int x2, x3], v.toList ++ [], t, (0, 0)) Q) ∧ (∀ k t, R (.inr k) t → Q (.inr k) t))) ∧
        (¬ ((I a1 4) ≤ x2) →
        (vp_in x2 4 ∧ ∃ R : mc_Q, mc_WP (mc_en 146 [.ref 56, .ref (a1 + 4 + 4 * x2.toNatClampNeg)] (I, J, rf_w r, sh_w N, n)) R ∧ (∀ v t, R (.inl v) t → mc_WP (144, 89, [.ref 56, .ref a1, .int x2, .ref (a1 + 4 + 4 * x2.toNatClampNeg)], v.toList ++ [], t, (0, 0)) Q) ∧ (∀ k t, R (.inr k) t → Q (.inr k) t)))) :
    mc_WP (144, 69, [.ref 56, .ref a1, .int x2, x3], [], (I, J, rf_w r, sh_w N, n), (0, 0)) Q := by
  exact (mc_WP.run (mc_adjs _) 4 (And.intro (wd_R (r := r) (N := N) ha1).1 (And.intro (fun c10 => (mc_WP.run (mc_adjs _) 4 (And.intro ⟨rfl, (show ¬ (54 : Nat) = 0 by decide)⟩ (And.intro rfl (And.intro (by decide) (And.intro (by decide) (h.1 c10))))))) (fun c10 => (by have g3 := (h.2 c10); have e4 : rf_w r a1 1 = (a1 + 3) := (wd_R (r := r) (N := N) ha1).2.2.1; have s5 : sh_w N (rf_w r a1 1) = (3, 4) := (by rw [e4]; exact (wd_R (r := r) (N := N) ha1).2.2.2.2.2); (try rw [← e4] at g3); have f6 : vp_in x2 4 := g3.1; have e7 : rf_w r (rf_w r a1 1) x2.toNatClampNeg = (a1 + 4 + 4 * x2.toNatClampNeg) := (by rw [e4]; exact (wd_A (r := r) (N := N) ha1 f6).1); have s8 : sh_w N (rf_w r (rf_w r a1 1) x2.toNatClampNeg) = (1, 4) := (by rw [e7]; exact (wd_A (r := r) (N := N) ha1 f6).2.1); have k9 : is_F (rf_w r (rf_w r a1 1) x2.toNatClampNeg) := (by rw [e7]; exact (wd_A (r := r) (N := N) ha1 f6).2.2); (try rw [← e7] at g3); exact (mc_WP.run (mc_adjs _) 8 (And.intro ⟨(wd_R (r := r) (N := N) ha1).1, (wd_Z s5)⟩ (And.intro (wl_la s5 g3.1 (wd_Z s8)) (And.intro rfl (And.intro (by decide) (And.intro (by decide) g3.2)))))))))))
set_option maxRecDepth 20000 in
theorem bk_144_89 {a1 : Nat} {x2 : Int32} {a3 : Nat} (ha1 : is_R a1) (ha3 : is_F a3)
    (h : ∃ R : mc_Q, mc_WP (mc_en 147 [.ref 56, .ref a3] (I, J, rf_w r, sh_w N, n)) R ∧ (∀ v t, R (.inl v) t → mc_WP (144, 94, [.ref 56, .ref a1, .int x2, .ref a3], v.toList ++ [], t, (0, 0)) Q) ∧ (∀ k t, R (.inr k) t → Q (.inr k) t)) :
    mc_WP (144, 89, [.ref 56, .ref a1, .int x2, .ref a3], [], (I, J, rf_w r, sh_w N, n), (0, 0)) Q := by
  exact (mc_WP.run (mc_adjs _) 3 (And.intro rfl (And.intro (by decide) (And.intro (by decide) h))))
set_option maxRecDepth 20000 in
theorem bk_144_94 {a1 : Nat} {x2 : Int32} {a3 : Nat} (ha1 : is_R a1) (ha3 : is_F a3)
    (h : ∃ R : mc_Q, mc_WP (mc_en 191 [.ref a1, .ref a3] (I, J, rf_w r, sh_w N, n)) R ∧ (∀ v t, R (.inl v) t → mc_WP (144, 101, [.ref 56, .ref a1, .int x2, .ref a3], v.toList ++ [.ref a3, .ref 56], t, (0, 0)) Q) ∧ (∀ k t, R (.inr k) t → Q (.inr k) t)) :
    mc_WP (144, 94, [.ref 56, .ref a1, .int x2, .ref a3], [], (I, J, rf_w r, sh_w N, n), (0, 0)) Q := by
  exact (mc_WP.run (mc_adjs _) 5 (And.intro (wd_R (r := r) (N := N) ha1).1 (And.intro (by decide) (And.intro (by decide) h))))
set_option maxRecDepth 20000 in
theorem bk_144_101 {a1 : Nat} {x2 : Int32} {a3 : Nat} {b1 : Nat} {b2 : Nat} (ha1 : is_R a1) (ha3 : is_F a3) (hb1 : is_F b1) (hb2 : is_P b2)
    (h : ∃ R : mc_Q, mc_WP (mc_en 148 [.ref 56, .ref b1, .int (I b2 1)] (I, J, rf_w r, sh_w N, n)) R ∧ (∀ v t, R (.inl v) t → mc_WP (144, 107, [.ref 56, .ref a1, .int x2, .ref a3], v.toList ++ [], t, (0, 0)) Q) ∧ (∀ k t, R (.inr k) t → Q (.inr k) t)) :
    mc_WP (144, 101, [.ref 56, .ref a1, .int x2, .ref a3], [.ref b2, .ref b1, .ref 56], (I, J, rf_w r, sh_w N, n), (0, 0)) Q := by
  exact (mc_WP.run (mc_adjs _) 2 (And.intro (wd_P (r := r) (N := N) hb2).1 (And.intro rfl (And.intro (by decide) (And.intro (by decide) h)))))
set_option maxRecDepth 20000 in
theorem bk_144_107 {a1 : Nat} {x2 : Int32} {a3 : Nat} (ha1 : is_R a1) (ha3 : is_F a3)
    (h : mc_WP (144, 69, [.ref 56, .ref a1, .int (x2 + (1 : Int32)), .ref a3], [], (I, J, rf_w r, sh_w N, n), (0, 0)) Q) :
    mc_WP (144, 107, [.ref 56, .ref a1, .int x2, .ref a3], [], (I, J, rf_w r, sh_w N, n), (0, 0)) Q := by
  exact (mc_WP.run (mc_adjs _) 2 h)
set_option maxRecDepth 20000 in
theorem bk_144_122 {a1 : Nat} {x2 : Int32} {x3 : Value} (ha1 : is_R a1)
    (h : Q (.inl none) (I, J, rf_w r, sh_w N, n)) :
    mc_WP (144, 122, [.ref 56, .ref a1, .int x2, x3], [], (I, J, rf_w r, sh_w N, n), (0, 0)) Q := by
  exact (mc_WP.run (mc_adjs _) 1 h)
-- 145 packPalette(LPaletteReel$Palette;)V inl<=6
set_option maxRecDepth 20000 in
theorem bk_145_0 {a1 : Nat} (ha1 : is_P a1)
    (h : mc_WP (145, 2, [.ref 56, .ref a1, .int (0 : Int32), .null], [], (I, J, rf_w r, sh_w N, n), (0, 0)) Q) :
    mc_WP (mc_en 145 [.ref 56, .ref a1] (I, J, rf_w r, sh_w N, n)) Q := by
  exact (mc_WP.run (mc_adjs _) 2 h)
set_option maxRecDepth 20000 in
theorem bk_145_2 {a1 : Nat} {x2 : Int32} {x3 : Value} (ha1 : is_P a1)
    (h : ((I a1 1) ≤ x2 → (Q (.inl none) (I, J, rf_w r, sh_w N, n))) ∧
        (¬ ((I a1 1) ≤ x2) →
        (mc_WP (145, 12, [.ref 56, .ref a1, .int x2, .int (0 : Int32)], [], (I, J, rf_w r, sh_w N, n), (0, 0)) Q))) :
    mc_WP (145, 2, [.ref 56, .ref a1, .int x2, x3], [], (I, J, rf_w r, sh_w N, n), (0, 0)) Q := by
  exact (mc_WP.run (mc_adjs _) 4 (And.intro (wd_P (r := r) (N := N) ha1).1 (And.intro (fun c4 => (mc_WP.run (mc_adjs _) 1 (h.1 c4))) (fun c4 => (mc_WP.run (mc_adjs _) 2 (h.2 c4))))))
set_option maxRecDepth 20000 in
theorem bk_145_12 {a1 : Nat} {x2 : Int32} {x3 : Int32} (ha1 : is_P a1)
    (h : ((3 : Int32) ≤ x3 →
        (mc_WP (145, 2, [.ref 56, .ref a1, .int (x2 + (1 : Int32)), .int x3], [], (I, J, rf_w r, sh_w N, n), (0, 0)) Q)) ∧
        (¬ ((3 : Int32) ≤ x3) →
        (vp_in x2 16 ∧ ((Int32.ofNat 800) ≤ (I 54 1) →
          (mc_WP (145, 12, [.ref 56, .ref a1, .int x2, .int (x3 + (1 : Int32))], [], (I, J, rf_w r, sh_w N, n), (0, 0)) Q)) ∧
          (¬ ((Int32.ofNat 800) ≤ (I 54 1)) →
          (vp_in (I 54 1) 800 ∧ mc_WP (145, 12, [.ref 56, .ref a1, .int x2, .int (x3 + (1 : Int32))], [], ((mc_up (mc_up I 55 (I 54 1).toNatClampNeg (((I (a1 + 1) x2.toNatClampNeg) >>> (((8 : Int32) * ((2 : Int32) - x3)) &&& 31)) &&& (255 : Int32))) 54 1 ((I 54 1) + (1 : Int32))), J, rf_w r, sh_w N, n), (0, 0)) Q))))) :
    mc_WP (145, 12, [.ref 56, .ref a1, .int x2, .int x3], [], (I, J, rf_w r, sh_w N, n), (0, 0)) Q := by
  exact (mc_WP.run (mc_adjs _) 3 (And.intro (fun c13 => (mc_WP.run (mc_adjs _) 2 (h.1 c13))) (fun c13 => (by have g3 := (h.2 c13); have e4 : rf_w r a1 0 = (a1 + 1) := (wd_P (r := r) (N := N) ha1).2.1; have s5 : sh_w N (rf_w r a1 0) = (2, 16) := (by rw [e4]; exact (wd_P (r := r) (N := N) ha1).2.2); have ts5 : 10 ≤ rf_w r a1 0 := (by rw [e4]; exact wd_tP ha1 _); (try rw [← e4] at g3); exact (mc_WP.run (mc_adjs _) 8 (And.intro ⟨rfl, (show ¬ (54 : Nat) = 0 by decide)⟩ (And.intro ⟨(wd_P (r := r) (N := N) ha1).1, (wd_Z s5)⟩ (And.intro (wl_ld s5 g3.1) (And.intro (by decide) (And.intro (by decide) (mc_inl (mc_WP.run (mc_adjs _) 10 (mc_WP.run (mc_adjs _) 1 (And.intro rfl (And.intro (by decide) (And.intro (by decide) (mc_inl (mc_WP.run (mc_adjs _) 6 (And.intro rfl (And.intro ⟨rfl, (show ¬ (55 : Nat) = 0 by decide)⟩ (And.intro (wl_len rfl (by decide) (by decide)) (And.intro (fun c14 => (mc_WP.run (mc_adjs _) 1 (mc_WP.run (mc_adjs _) 2 (g3.2.1 c14)))) (fun c14 => (mc_WP.run (mc_adjs _) 13 (And.intro ⟨rfl, (show ¬ (55 : Nat) = 0 by decide)⟩ (And.intro rfl (And.intro (wl_st rfl (g3.2.2 c14).1 (show 10 ≤ (55 : Nat) by decide)) (And.intro rfl (And.intro rfl (mc_WP.run (mc_adjs _) 2 (g3.2.2 c14).2))))))))))))))))))))))))))))))
-- 146 packSettings(LPaletteReel$Frame;)V inl<=1
set_option maxRecDepth 20000 in
theorem bk_146_0 {a1 : Nat} (ha1 : is_F a1)
    (h : ((I a1 8) = (-1 : Int32) →
        (∃ R : mc_Q, mc_WP (mc_en 126 [.ref 54, .int (33 : Int32)] (I, J, rf_w r, sh_w N, n)) R ∧ (∀ v t, R (.inl v) t → mc_WP (146, 23, [.ref 56, .ref a1, .int (0 : Int32)], v.toList ++ [], t, (0, 0)) Q) ∧ (∀ k t, R (.inr k) t → Q (.inr k) t))) ∧
        (¬ ((I a1 8) = (-1 : Int32)) →
        (∃ R : mc_Q, mc_WP (mc_en 126 [.ref 54, .int (33 : Int32)] (I, J, rf_w r, sh_w N, n)) R ∧ (∀ v t, R (.inl v) t → mc_WP (146, 23, [.ref 56, .ref a1, .int (1 : Int32)], v.toList ++ [], t, (0, 0)) Q) ∧ (∀ k t, R (.inr k) t → Q (.inr k) t)))) :
    mc_WP (mc_en 146 [.ref 56, .ref a1] (I, J, rf_w r, sh_w N, n)) Q := by
  exact (mc_WP.run (mc_adjs _) 4 (And.intro (wd_F (r := r) (N := N) ha1).1 (And.intro (fun c5 => (mc_WP.run (mc_adjs _) 6 (And.intro ⟨rfl, (show ¬ (54 : Nat) = 0 by decide)⟩ (And.intro rfl (And.intro (by decide) (And.intro (by decide) (h.1 c5))))))) (fun c5 => (mc_WP.run (mc_adjs _) 2 (mc_WP.run (mc_adjs _) 5 (And.intro ⟨rfl, (show ¬ (54 : Nat) = 0 by decide)⟩ (And.intro rfl (And.intro (by decide) (And.intro (by decide) (h.2 c5)))))))))))
set_option maxRecDepth 20000 in
theorem bk_146_23 {a1 : Nat} {x2 : Int32} (ha1 : is_F a1)
    (h : (x2 = 0 →
        (∃ R : mc_Q, mc_WP (mc_en 126 [.ref 54, .int ((I a1 6) + (0 : Int32))] (I, J, rf_w r, sh_w N, n)) R ∧ (∀ v t, R (.inl v) t → mc_WP (146, 45, [.ref 56, .ref a1, .int x2], v.toList ++ [], t, (0, 0)) Q) ∧ (∀ k t, R (.inr k) t → Q (.inr k) t))) ∧
        (¬ (x2 = 0) →
        (∃ R : mc_Q, mc_WP (mc_en 126 [.ref 54, .int ((I a1 6) + (16 : Int32))] (I, J, rf_w r, sh_w N, n)) R ∧ (∀ v t, R (.inl v) t → mc_WP (146, 45, [.ref 56, .ref a1, .int x2], v.toList ++ [], t, (0, 0)) Q) ∧ (∀ k t, R (.inr k) t → Q (.inr k) t)))) :
    mc_WP (146, 23, [.ref 56, .ref a1, .int x2], [], (I, J, rf_w r, sh_w N, n), (0, 0)) Q := by
  exact (mc_WP.run (mc_adjs _) 6 (And.intro ⟨rfl, (show ¬ (54 : Nat) = 0 by decide)⟩ (And.intro (wd_F (r := r) (N := N) ha1).1 (And.intro (fun c5 => (mc_WP.run (mc_adjs _) 3 (And.intro rfl (And.intro (by decide) (And.intro (by decide) (h.1 c5)))))) (fun c5 => (mc_WP.run (mc_adjs _) 2 (mc_WP.run (mc_adjs _) 2 (And.intro rfl (And.intro (by decide) (And.intro (by decide) (h.2 c5)))))))))))
set_option maxRecDepth 20000 in
theorem bk_146_45 {a1 : Nat} {x2 : Int32} (ha1 : is_F a1)
    (h : ∃ R : mc_Q, mc_WP (mc_en 126 [.ref 54, .int (I a1 7)] (I, J, rf_w r, sh_w N, n)) R ∧ (∀ v t, R (.inl v) t → mc_WP (146, 56, [.ref 56, .ref a1, .int x2], v.toList ++ [], t, (0, 0)) Q) ∧ (∀ k t, R (.inr k) t → Q (.inr k) t)) :
    mc_WP (146, 45, [.ref 56, .ref a1, .int x2], [], (I, J, rf_w r, sh_w N, n), (0, 0)) Q := by
  exact (mc_WP.run (mc_adjs _) 5 (And.intro ⟨rfl, (show ¬ (54 : Nat) = 0 by decide)⟩ (And.intro (wd_F (r := r) (N := N) ha1).1 (And.intro rfl (And.intro (by decide) (And.intro (by decide) h))))))
set_option maxRecDepth 20000 in
theorem bk_146_56 {a1 : Nat} {x2 : Int32} (ha1 : is_F a1)
    (h : (x2 = 0 →
        (∃ R : mc_Q, mc_WP (mc_en 126 [.ref 54, .int (0 : Int32)] (I, J, rf_w r, sh_w N, n)) R ∧ (∀ v t, R (.inl v) t → mc_WP (146, 75, [.ref 56, .ref a1, .int x2], v.toList ++ [], t, (0, 0)) Q) ∧ (∀ k t, R (.inr k) t → Q (.inr k) t))) ∧
        (¬ (x2 = 0) →
        (∃ R : mc_Q, mc_WP (mc_en 126 [.ref 54, .int (I a1 8)] (I, J, rf_w r, sh_w N, n)) R ∧ (∀ v t, R (.inl v) t → mc_WP (146, 75, [.ref 56, .ref a1, .int x2], v.toList ++ [], t, (0, 0)) Q) ∧ (∀ k t, R (.inr k) t → Q (.inr k) t)))) :
    mc_WP (146, 56, [.ref 56, .ref a1, .int x2], [], (I, J, rf_w r, sh_w N, n), (0, 0)) Q := by
  exact (mc_WP.run (mc_adjs _) 4 (And.intro ⟨rfl, (show ¬ (54 : Nat) = 0 by decide)⟩ (And.intro (fun c5 => (mc_WP.run (mc_adjs _) 2 (And.intro rfl (And.intro (by decide) (And.intro (by decide) (h.1 c5)))))) (fun c5 => (mc_WP.run (mc_adjs _) 3 (And.intro (wd_F (r := r) (N := N) ha1).1 (mc_WP.run (mc_adjs _) 1 (And.intro rfl (And.intro (by decide) (And.intro (by decide) (h.2 c5)))))))))))
set_option maxRecDepth 20000 in
theorem bk_146_75 {a1 : Nat} {x2 : Int32} (ha1 : is_F a1)
    (h : Q (.inl none) (I, J, rf_w r, sh_w N, n)) :
    mc_WP (146, 75, [.ref 56, .ref a1, .int x2], [], (I, J, rf_w r, sh_w N, n), (0, 0)) Q := by
  exact (mc_WP.run (mc_adjs _) 1 h)
end
