/-! what the code does between its cut points (printed by blocks.py) -/
section
variable {I : Nat → Nat → Int32} {J : Nat → Nat → Int64} {r N n : Nat} {Q : mc_Q}
-- 65 addFrame(IIII)I inl<=6
set_option maxRecDepth 20000 in
theorem bk_65_0 {x1 : Int32} {x2 : Int32} {x3 : Int32} {x4 : Int32}
    (h : mc_WP (65, 28, [.ref 84, .int x1, .int x2, .int x3, .int x4, .int (I 84 1), .int ((9 : Int32) * ((I 84 1) + (1 : Int32))), .int (0 : Int32)], [], ((mc_up I 84 1 ((I 84 1) + (1 : Int32))), J, rf_w r, sh_w N, n), (0, 0)) Q) :
    mc_WP (mc_en 65 [.ref 84, .int x1, .int x2, .int x3, .int x4] (I, J, rf_w r, sh_w N, n)) Q := by
  exact (mc_WP.run (mc_adjs _) 17 (And.intro rfl (And.intro rfl (And.intro rfl h))))
set_option maxRecDepth 20000 in
theorem bk_65_28 {x1 : Int32} {x2 : Int32} {x3 : Int32} {x4 : Int32} {x5 : Int32} {x6 : Int32} {x7 : Int32}
    (h : ((9 : Int32) ≤ x7 →
        (vp_in (x6 + (0 : Int32)) 45 ∧ vp_in (x6 + (1 : Int32)) 45 ∧ vp_in (x6 + (2 : Int32)) 45 ∧ vp_in (x6 + (3 : Int32)) 45 ∧ vp_in (x6 + (7 : Int32)) 45 ∧ mc_WP (65, 107, [.ref 84, .int x1, .int x2, .int x3, .int x4, .int x5, .int x6, .int (0 : Int32)], [], ((mc_up (mc_up (mc_up (mc_up (mc_up I 85 (x6 + (0 : Int32)).toNatClampNeg x1) 85 (x6 + (1 : Int32)).toNatClampNeg x2) 85 (x6 + (2 : Int32)).toNatClampNeg x3) 85 (x6 + (3 : Int32)).toNatClampNeg x4) 85 (x6 + (7 : Int32)).toNatClampNeg (-1 : Int32)), J, rf_w r, sh_w N, n), (0, 0)) Q)) ∧
        (¬ ((9 : Int32) ≤ x7) →
        (vp_in (x6 + x7) 45 ∧ mc_WP (65, 28, [.ref 84, .int x1, .int x2, .int x3, .int x4, .int x5, .int x6, .int (x7 + (1 : Int32))], [], ((mc_up I 85 (x6 + x7).toNatClampNeg (0 : Int32)), J, rf_w r, sh_w N, n), (0, 0)) Q))) :
    mc_WP (65, 28, [.ref 84, .int x1, .int x2, .int x3, .int x4, .int x5, .int x6, .int x7], [], (I, J, rf_w r, sh_w N, n), (0, 0)) Q := by
  exact (mc_WP.run (mc_adjs _) 3 (And.intro (fun c4 => (mc_WP.run (mc_adjs _) 37 (And.intro ⟨rfl, (show ¬ (85 : Nat) = 0 by decide)⟩ (And.intro (wl_st rfl (h.1 c4).1 (show 10 ≤ (85 : Nat) by decide)) (And.intro ⟨rfl, (show ¬ (85 : Nat) = 0 by decide)⟩ (And.intro (wl_st rfl (h.1 c4).2.1 (show 10 ≤ (85 : Nat) by decide)) (And.intro ⟨rfl, (show ¬ (85 : Nat) = 0 by decide)⟩ (And.intro (wl_st rfl (h.1 c4).2.2.1 (show 10 ≤ (85 : Nat) by decide)) (And.intro ⟨rfl, (show ¬ (85 : Nat) = 0 by decide)⟩ (And.intro (wl_st rfl (h.1 c4).2.2.2.1 (show 10 ≤ (85 : Nat) by decide)) (And.intro ⟨rfl, (show ¬ (85 : Nat) = 0 by decide)⟩ (And.intro (wl_st rfl (h.1 c4).2.2.2.2.1 (show 10 ≤ (85 : Nat) by decide)) (h.1 c4).2.2.2.2.2)))))))))))) (fun c4 => (mc_WP.run (mc_adjs _) 9 (And.intro ⟨rfl, (show ¬ (85 : Nat) = 0 by decide)⟩ (And.intro (wl_st rfl (h.2 c4).1 (show 10 ≤ (85 : Nat) by decide)) (h.2 c4).2))))))
set_option maxRecDepth 20000 in
theorem bk_65_107 {x1 : Int32} {x2 : Int32} {x3 : Int32} {x4 : Int32} {x5 : Int32} {x6 : Int32} {x7 : Int32}
    (h : ((64 : Int32) ≤ x7 →
        (mc_WP (65, 137, [.ref 84, .int x1, .int x2, .int x3, .int x4, .int x5, .int x6, .int (0 : Int32)], [], (I, J, rf_w r, sh_w N, n), (0, 0)) Q)) ∧
        (¬ ((64 : Int32) ≤ x7) →
        (vp_in (((64 : Int32) * x5) + x7) 256 ∧ mc_WP (65, 107, [.ref 84, .int x1, .int x2, .int x3, .int x4, .int x5, .int x6, .int (x7 + (1 : Int32))], [], ((mc_up I 87 (((64 : Int32) * x5) + x7).toNatClampNeg (0 : Int32)), J, rf_w r, sh_w N, n), (0, 0)) Q))) :
    mc_WP (65, 107, [.ref 84, .int x1, .int x2, .int x3, .int x4, .int x5, .int x6, .int x7], [], (I, J, rf_w r, sh_w N, n), (0, 0)) Q := by
  exact (mc_WP.run (mc_adjs _) 3 (And.intro (fun c4 => (mc_WP.run (mc_adjs _) 2 (h.1 c4))) (fun c4 => (mc_WP.run (mc_adjs _) 11 (And.intro ⟨rfl, (show ¬ (87 : Nat) = 0 by decide)⟩ (And.intro (wl_st rfl (h.2 c4).1 (show 10 ≤ (87 : Nat) by decide)) (h.2 c4).2))))))
set_option maxRecDepth 20000 in
theorem bk_65_137 {x1 : Int32} {x2 : Int32} {x3 : Int32} {x4 : Int32} {x5 : Int32} {x6 : Int32} {x7 : Int32}
    (h : ((16 : Int32) ≤ x7 → (Q (.inl (some (.int x5))) (I, J, rf_w r, sh_w N, n))) ∧
        (¬ ((16 : Int32) ≤ x7) →
        (vp_in (((16 : Int32) * (x5 + (1 : Int32))) + x7) 80 ∧ mc_WP (65, 137, [.ref 84, .int x1, .int x2, .int x3, .int x4, .int x5, .int x6, .int (x7 + (1 : Int32))], [], ((mc_up I 86 (((16 : Int32) * (x5 + (1 : Int32))) + x7).toNatClampNeg (0 : Int32)), J, rf_w r, sh_w N, n), (0, 0)) Q))) :
    mc_WP (65, 137, [.ref 84, .int x1, .int x2, .int x3, .int x4, .int x5, .int x6, .int x7], [], (I, J, rf_w r, sh_w N, n), (0, 0)) Q := by
  exact (mc_WP.run (mc_adjs _) 3 (And.intro (fun c4 => (mc_WP.run (mc_adjs _) 2 (h.1 c4))) (fun c4 => (mc_WP.run (mc_adjs _) 13 (And.intro ⟨rfl, (show ¬ (86 : Nat) = 0 by decide)⟩ (And.intro (wl_st rfl (h.2 c4).1 (show 10 ≤ (86 : Nat) by decide)) (h.2 c4).2))))))
-- 66 frame(IIII)I inl<=1
set_option maxRecDepth 20000 in
theorem bk_66_0 {x1 : Int32} {x2 : Int32} {x3 : Int32} {x4 : Int32}
    (h : ∃ R : mc_Q, mc_WP (mc_en 57 [.int x1, .int (0 : Int32), .int (7 : Int32)] (I, J, rf_w r, sh_w N, n)) R ∧ (∀ v t, R (.inl v) t → mc_WP (66, 7, [.ref 84, .int x1, .int x2, .int x3, .int x4, .null], v.toList ++ [], t, (0, 0)) Q) ∧ (∀ k t, R (.inr k) t → Q (.inr k) t)) :
    mc_WP (mc_en 66 [.ref 84, .int x1, .int x2, .int x3, .int x4] (I, J, rf_w r, sh_w N, n)) Q := by
  exact (mc_WP.run (mc_adjs _) 4 (And.intro (by decide) (And.intro (by decide) h)))
set_option maxRecDepth 20000 in
theorem bk_66_7 {x1 : Int32} {x2 : Int32} {x3 : Int32} {x4 : Int32} {y0 : Int32}
    (h : (¬ y0 = 0 →
        (mc_WP (66, 94, [.ref 84, .int x1, .int x2, .int x3, .int x4, .int (1 : Int32)], [.int (0 : Int32)], ((mc_up I 84 0 (1 : Int32)), J, rf_w r, sh_w N, n), (0, 0)) Q)) ∧
        (¬ (¬ y0 = 0) →
        (∃ R : mc_Q, mc_WP (mc_en 57 [.int x2, .int (0 : Int32), .int (7 : Int32)] (I, J, rf_w r, sh_w N, n)) R ∧ (∀ v t, R (.inl v) t → mc_WP (66, 17, [.ref 84, .int x1, .int x2, .int x3, .int x4, .null], v.toList ++ [], t, (0, 0)) Q) ∧ (∀ k t, R (.inr k) t → Q (.inr k) t)))) :
    mc_WP (66, 7, [.ref 84, .int x1, .int x2, .int x3, .int x4, .null], [.int y0], (I, J, rf_w r, sh_w N, n), (0, 0)) Q := by
  exact (mc_WP.run (mc_adjs _) 1 (And.intro (fun c8 => (mc_WP.run (mc_adjs _) 2 (mc_WP.run (mc_adjs _) 4 (And.intro (fun c => absurd c (show ¬ ((1 : Int32) = 0) by decide)) (fun _ => (mc_WP.run (mc_adjs _) 2 (mc_WP.run (mc_adjs _) 4 (And.intro rfl (And.intro rfl (And.intro (fun c => absurd c (show ¬ ((1 : Int32) ≤ 0) by decide)) (fun _ => (mc_WP.run (mc_adjs _) 2 (h.1 c8))))))))))))) (fun c8 => (mc_WP.run (mc_adjs _) 4 (And.intro (by decide) (And.intro (by decide) (h.2 c8)))))))
set_option maxRecDepth 20000 in
theorem bk_66_17 {x1 : Int32} {x2 : Int32} {x3 : Int32} {x4 : Int32} {y0 : Int32}
    (h : (¬ y0 = 0 →
        (mc_WP (66, 94, [.ref 84, .int x1, .int x2, .int x3, .int x4, .int (1 : Int32)], [.int (0 : Int32)], ((mc_up I 84 0 (1 : Int32)), J, rf_w r, sh_w N, n), (0, 0)) Q)) ∧
        (¬ (¬ y0 = 0) →
        (∃ R : mc_Q, mc_WP (mc_en 57 [.int x3, .int (1 : Int32), .int (8 : Int32)] (I, J, rf_w r, sh_w N, n)) R ∧ (∀ v t, R (.inl v) t → mc_WP (66, 27, [.ref 84, .int x1, .int x2, .int x3, .int x4, .null], v.toList ++ [], t, (0, 0)) Q) ∧ (∀ k t, R (.inr k) t → Q (.inr k) t)))) :
    mc_WP (66, 17, [.ref 84, .int x1, .int x2, .int x3, .int x4, .null], [.int y0], (I, J, rf_w r, sh_w N, n), (0, 0)) Q := by
  exact (mc_WP.run (mc_adjs _) 1 (And.intro (fun c8 => (mc_WP.run (mc_adjs _) 2 (mc_WP.run (mc_adjs _) 4 (And.intro (fun c => absurd c (show ¬ ((1 : Int32) = 0) by decide)) (fun _ => (mc_WP.run (mc_adjs _) 2 (mc_WP.run (mc_adjs _) 4 (And.intro rfl (And.intro rfl (And.intro (fun c => absurd c (show ¬ ((1 : Int32) ≤ 0) by decide)) (fun _ => (mc_WP.run (mc_adjs _) 2 (h.1 c8))))))))))))) (fun c8 => (mc_WP.run (mc_adjs _) 4 (And.intro (by decide) (And.intro (by decide) (h.2 c8)))))))
set_option maxRecDepth 20000 in
theorem bk_66_27 {x1 : Int32} {x2 : Int32} {x3 : Int32} {x4 : Int32} {y0 : Int32}
    (h : (¬ y0 = 0 →
        (mc_WP (66, 94, [.ref 84, .int x1, .int x2, .int x3, .int x4, .int (1 : Int32)], [.int (0 : Int32)], ((mc_up I 84 0 (1 : Int32)), J, rf_w r, sh_w N, n), (0, 0)) Q)) ∧
        (¬ (¬ y0 = 0) →
        (∃ R : mc_Q, mc_WP (mc_en 57 [.int x4, .int (1 : Int32), .int (8 : Int32)] (I, J, rf_w r, sh_w N, n)) R ∧ (∀ v t, R (.inl v) t → mc_WP (66, 38, [.ref 84, .int x1, .int x2, .int x3, .int x4, .null], v.toList ++ [], t, (0, 0)) Q) ∧ (∀ k t, R (.inr k) t → Q (.inr k) t)))) :
    mc_WP (66, 27, [.ref 84, .int x1, .int x2, .int x3, .int x4, .null], [.int y0], (I, J, rf_w r, sh_w N, n), (0, 0)) Q := by
  exact (mc_WP.run (mc_adjs _) 1 (And.intro (fun c8 => (mc_WP.run (mc_adjs _) 2 (mc_WP.run (mc_adjs _) 4 (And.intro (fun c => absurd c (show ¬ ((1 : Int32) = 0) by decide)) (fun _ => (mc_WP.run (mc_adjs _) 2 (mc_WP.run (mc_adjs _) 4 (And.intro rfl (And.intro rfl (And.intro (fun c => absurd c (show ¬ ((1 : Int32) ≤ 0) by decide)) (fun _ => (mc_WP.run (mc_adjs _) 2 (h.1 c8))))))))))))) (fun c8 => (mc_WP.run (mc_adjs _) 4 (And.intro (by decide) (And.intro (by decide) (h.2 c8)))))))
set_option maxRecDepth 20000 in
theorem bk_66_38 {x1 : Int32} {x2 : Int32} {x3 : Int32} {x4 : Int32} {y0 : Int32}
    (h : (y0 = 0 →
        ((¬ (I 84 1) = (4 : Int32) →
          (∃ R : mc_Q, mc_WP (mc_en 65 [.ref 84, .int x1, .int x2, .int x3, .int x4] ((mc_up I 84 0 (0 : Int32)), J, rf_w r, sh_w N, n)) R ∧ (∀ v t, R (.inl v) t → mc_WP (66, 94, [.ref 84, .int x1, .int x2, .int x3, .int x4, .int (0 : Int32)], v.toList ++ [], t, (0, 0)) Q) ∧ (∀ k t, R (.inr k) t → Q (.inr k) t))) ∧
          (¬ (¬ (I 84 1) = (4 : Int32)) →
          (mc_WP (66, 94, [.ref 84, .int x1, .int x2, .int x3, .int x4, .int (0 : Int32)], [.int (0 : Int32)], ((mc_up I 84 0 (2 : Int32)), J, rf_w r, sh_w N, n), (0, 0)) Q)))) ∧
        (¬ (y0 = 0) →
        (mc_WP (66, 94, [.ref 84, .int x1, .int x2, .int x3, .int x4, .int (1 : Int32)], [.int (0 : Int32)], ((mc_up I 84 0 (1 : Int32)), J, rf_w r, sh_w N, n), (0, 0)) Q))) :
    mc_WP (66, 38, [.ref 84, .int x1, .int x2, .int x3, .int x4, .null], [.int y0], (I, J, rf_w r, sh_w N, n), (0, 0)) Q := by
  exact (mc_WP.run (mc_adjs _) 1 (And.intro (fun c14 => (mc_WP.run (mc_adjs _) 5 (And.intro (fun _ => (mc_WP.run (mc_adjs _) 4 (And.intro rfl (And.intro (fun c15 => (mc_WP.run (mc_adjs _) 5 (And.intro rfl (And.intro rfl (And.intro (fun _ => (mc_WP.run (mc_adjs _) 6 (And.intro rfl (And.intro (by decide) (And.intro (by decide) ((h.1 c14).1 c15)))))) (fun c => absurd (show (0 : Int32) ≤ 0 by decide) c)))))) (fun c15 => (mc_WP.run (mc_adjs _) 2 (mc_WP.run (mc_adjs _) 4 (And.intro rfl (And.intro rfl (And.intro (fun c => absurd c (show ¬ ((2 : Int32) ≤ 0) by decide)) (fun _ => (mc_WP.run (mc_adjs _) 2 ((h.1 c14).2 c15))))))))))))) (fun c => absurd (show (0 : Int32) = 0 by decide) c)))) (fun c14 => (mc_WP.run (mc_adjs _) 2 (mc_WP.run (mc_adjs _) 4 (And.intro (fun c => absurd c (show ¬ ((1 : Int32) = 0) by decide)) (fun _ => (mc_WP.run (mc_adjs _) 2 (mc_WP.run (mc_adjs _) 4 (And.intro rfl (And.intro rfl (And.intro (fun c => absurd c (show ¬ ((1 : Int32) ≤ 0) by decide)) (fun _ => (mc_WP.run (mc_adjs _) 2 (h.2 c14)))))))))))))))
set_option maxRecDepth 20000 in
theorem bk_66_94 {x1 : Int32} {x2 : Int32} {x3 : Int32} {x4 : Int32} {x5 : Int32} {y0 : Int32}
    (h : Q (.inl (some (.int y0))) (I, J, rf_w r, sh_w N, n)) :
    mc_WP (66, 94, [.ref 84, .int x1, .int x2, .int x3, .int x4, .int x5], [.int y0], (I, J, rf_w r, sh_w N, n), (0, 0)) Q := by
  exact (mc_WP.run (mc_adjs _) 1 h)
-- 67 isPixel(III)Z inl<=6
set_option maxRecDepth 20000 in
theorem bk_67_0 {x1 : Int32} {x2 : Int32} {x3 : Int32}
    (h : (x1 < 0 → (Q (.inl (some (.int (0 : Int32)))) (I, J, rf_w r, sh_w N, n))) ∧
        (¬ (x1 < 0) →
        (((I 84 1) ≤ x1 → (Q (.inl (some (.int (0 : Int32)))) (I, J, rf_w r, sh_w N, n))) ∧
          (¬ ((I 84 1) ≤ x1) →
          ((x2 < 0 → (Q (.inl (some (.int (0 : Int32)))) (I, J, rf_w r, sh_w N, n))) ∧
            (¬ (x2 < 0) →
            (vp_in (((9 : Int32) * (x1 + (1 : Int32))) + (2 : Int32)) 45 ∧ ((I 85 (((9 : Int32) * (x1 + (1 : Int32))) + (2 : Int32)).toNatClampNeg) ≤ x2 → (Q (.inl (some (.int (0 : Int32)))) (I, J, rf_w r, sh_w N, n))) ∧
              (¬ ((I 85 (((9 : Int32) * (x1 + (1 : Int32))) + (2 : Int32)).toNatClampNeg) ≤ x2) →
              ((x3 < 0 → (Q (.inl (some (.int (0 : Int32)))) (I, J, rf_w r, sh_w N, n))) ∧
                (¬ (x3 < 0) →
                (vp_in (((9 : Int32) * (x1 + (1 : Int32))) + (3 : Int32)) 45 ∧ ((I 85 (((9 : Int32) * (x1 + (1 : Int32))) + (3 : Int32)).toNatClampNeg) ≤ x3 → (Q (.inl (some (.int (0 : Int32)))) (I, J, rf_w r, sh_w N, n))) ∧
                  (¬ ((I 85 (((9 : Int32) * (x1 + (1 : Int32))) + (3 : Int32)).toNatClampNeg) ≤ x3) → (Q (.inl (some (.int (1 : Int32)))) (I, J, rf_w r, sh_w N, n)))))))))))))) :
    mc_WP (mc_en 67 [.ref 84, .int x1, .int x2, .int x3] (I, J, rf_w r, sh_w N, n)) Q := by
  exact (mc_WP.run (mc_adjs _) 3 (And.intro rfl (And.intro (by decide) (And.intro (by decide) (mc_inl (mc_WP.run (mc_adjs _) 2 (And.intro (fun c23 => (mc_WP.run (mc_adjs _) 2 (And.intro (by decide) (mc_WP.run (mc_adjs _) 1 (And.intro (fun _ => (mc_WP.run (mc_adjs _) 2 (And.intro (by decide) (h.1 c23)))) (fun c => absurd (show (0 : Int32) = 0 by decide) c)))))) (fun c23 => (mc_WP.run (mc_adjs _) 4 (And.intro rfl (And.intro (fun c24 => (mc_WP.run (mc_adjs _) 2 (And.intro (by decide) (mc_WP.run (mc_adjs _) 1 (And.intro (fun _ => (mc_WP.run (mc_adjs _) 2 (And.intro (by decide) ((h.2 c23).1 c24)))) (fun c => absurd (show (0 : Int32) = 0 by decide) c)))))) (fun c24 => (mc_WP.run (mc_adjs _) 2 (mc_WP.run (mc_adjs _) 1 (And.intro (by decide) (mc_WP.run (mc_adjs _) 1 (And.intro (fun c => absurd c (show ¬ ((1 : Int32) = 0) by decide)) (fun _ => (mc_WP.run (mc_adjs _) 2 (And.intro (fun c25 => (mc_WP.run (mc_adjs _) 2 (And.intro (by decide) (((h.2 c23).2 c24).1 c25)))) (fun c25 => (mc_WP.run (mc_adjs _) 12 (And.intro ⟨rfl, (show ¬ (85 : Nat) = 0 by decide)⟩ (And.intro (wl_ld rfl (((h.2 c23).2 c24).2 c25).1) (And.intro (fun c26 => (mc_WP.run (mc_adjs _) 2 (And.intro (by decide) ((((h.2 c23).2 c24).2 c25).2.1 c26)))) (fun c26 => (mc_WP.run (mc_adjs _) 2 (And.intro (fun c27 => (mc_WP.run (mc_adjs _) 2 (And.intro (by decide) (((((h.2 c23).2 c24).2 c25).2.2 c26).1 c27)))) (fun c27 => (mc_WP.run (mc_adjs _) 12 (And.intro ⟨rfl, (show ¬ (85 : Nat) = 0 by decide)⟩ (And.intro (wl_ld rfl (((((h.2 c23).2 c24).2 c25).2.2 c26).2 c27).1) (And.intro (fun c28 => (mc_WP.run (mc_adjs _) 2 (And.intro (by decide) ((((((h.2 c23).2 c24).2 c25).2.2 c26).2 c27).2.1 c28)))) (fun c28 => (mc_WP.run (mc_adjs _) 2 (mc_WP.run (mc_adjs _) 1 (And.intro (by decide) ((((((h.2 c23).2 c24).2 c25).2.2 c26).2 c27).2.2 c28))))))))))))))))))))))))))))))))))))))
-- 68 pixel(IIII)V inl<=6
set_option maxRecDepth 20000 in
theorem bk_68_0 {x1 : Int32} {x2 : Int32} {x3 : Int32} {x4 : Int32}
    (h : ∃ R : mc_Q, mc_WP (mc_en 67 [.ref 84, .int x1, .int x2, .int x3] (I, J, rf_w r, sh_w N, n)) R ∧ (∀ v t, R (.inl v) t → mc_WP (68, 7, [.ref 84, .int x1, .int x2, .int x3, .int x4, .null], v.toList ++ [], t, (0, 0)) Q) ∧ (∀ k t, R (.inr k) t → Q (.inr k) t)) :
    mc_WP (mc_en 68 [.ref 84, .int x1, .int x2, .int x3, .int x4] (I, J, rf_w r, sh_w N, n)) Q := by
  exact (mc_WP.run (mc_adjs _) 5 (And.intro rfl (And.intro (by decide) (And.intro (by decide) h))))
set_option maxRecDepth 20000 in
theorem bk_68_7 {x1 : Int32} {x2 : Int32} {x3 : Int32} {x4 : Int32} {y0 : Int32}
    (h : (¬ y0 = 0 →
        (vp_in (((9 : Int32) * (x1 + (1 : Int32))) + (4 : Int32)) 45 ∧ ((I 85 (((9 : Int32) * (x1 + (1 : Int32))) + (4 : Int32)).toNatClampNeg) ≤ 0 →
          ((x4 < (0 : Int32) →
            (Q (.inl none) ((mc_up I 84 0 (2 : Int32)), J, rf_w r, sh_w N, n))) ∧
            (¬ (x4 < (0 : Int32)) →
            ((x4 ≤ (((1 : Int32) <<< ((I 85 4) &&& 31)) - (1 : Int32)) →
              (vp_in ((((64 : Int32) * x1) + ((8 : Int32) * x3)) + x2) 256 ∧ Q (.inl none) ((mc_up (mc_up I 84 0 (0 : Int32)) 87 ((((64 : Int32) * x1) + ((8 : Int32) * x3)) + x2).toNatClampNeg x4), J, rf_w r, sh_w N, n))) ∧
              (¬ (x4 ≤ (((1 : Int32) <<< ((I 85 4) &&& 31)) - (1 : Int32))) →
              (Q (.inl none) ((mc_up I 84 0 (2 : Int32)), J, rf_w r, sh_w N, n))))))) ∧
          (¬ ((I 85 (((9 : Int32) * (x1 + (1 : Int32))) + (4 : Int32)).toNatClampNeg) ≤ 0) →
          ((x4 < (0 : Int32) →
            (Q (.inl none) ((mc_up I 84 0 (2 : Int32)), J, rf_w r, sh_w N, n))) ∧
            (¬ (x4 < (0 : Int32)) →
            ((x4 ≤ (((1 : Int32) <<< ((I 85 (((9 : Int32) * (x1 + (1 : Int32))) + (4 : Int32)).toNatClampNeg) &&& 31)) - (1 : Int32)) →
              (vp_in ((((64 : Int32) * x1) + ((8 : Int32) * x3)) + x2) 256 ∧ Q (.inl none) ((mc_up (mc_up I 84 0 (0 : Int32)) 87 ((((64 : Int32) * x1) + ((8 : Int32) * x3)) + x2).toNatClampNeg x4), J, rf_w r, sh_w N, n))) ∧
              (¬ (x4 ≤ (((1 : Int32) <<< ((I 85 (((9 : Int32) * (x1 + (1 : Int32))) + (4 : Int32)).toNatClampNeg) &&& 31)) - (1 : Int32))) →
              (Q (.inl none) ((mc_up I 84 0 (2 : Int32)), J, rf_w r, sh_w N, n))))))))) ∧
        (¬ (¬ y0 = 0) →
        (Q (.inl none) ((mc_up I 84 0 (1 : Int32)), J, rf_w r, sh_w N, n)))) :
    mc_WP (68, 7, [.ref 84, .int x1, .int x2, .int x3, .int x4, .null], [.int y0], (I, J, rf_w r, sh_w N, n), (0, 0)) Q := by
  exact (mc_WP.run (mc_adjs _) 4 (And.intro (fun c48 => (mc_WP.run (mc_adjs _) 6 (And.intro rfl (And.intro (by decide) (And.intro (by decide) (mc_inl (mc_WP.run (mc_adjs _) 13 (And.intro ⟨rfl, (show ¬ (85 : Nat) = 0 by decide)⟩ (And.intro (wl_ld rfl (h.1 c48).1) (And.intro (fun c49 => (mc_WP.run (mc_adjs _) 5 (And.intro ⟨rfl, (show ¬ (85 : Nat) = 0 by decide)⟩ (And.intro (wl_ld rfl (show vp_in (4 : Int32) 45 by unfold vp_in; decide)) (mc_WP.run (mc_adjs _) 4 (And.intro (by decide) (And.intro (by decide) (mc_inl (mc_WP.run (mc_adjs _) 3 (And.intro (fun c50 => (mc_WP.run (mc_adjs _) 2 (mc_WP.run (mc_adjs _) 1 (And.intro (by decide) (mc_WP.run (mc_adjs _) 1 (And.intro (fun c => absurd c (show ¬ ((1 : Int32) = 0) by decide)) (fun _ => (mc_WP.run (mc_adjs _) 2 (mc_WP.run (mc_adjs _) 4 (And.intro rfl (And.intro rfl (And.intro (fun _ => (mc_WP.run (mc_adjs _) 1 (((h.1 c48).2.1 c49).1 c50))) (fun c => absurd (show ¬ (2 : Int32) = 0 by decide) c))))))))))))) (fun c50 => (mc_WP.run (mc_adjs _) 3 (And.intro (fun c51 => (mc_WP.run (mc_adjs _) 2 (And.intro (by decide) (mc_WP.run (mc_adjs _) 1 (And.intro (fun _ => (mc_WP.run (mc_adjs _) 5 (And.intro rfl (And.intro rfl (And.intro (fun c => absurd c (show ¬ (¬ (0 : Int32) = 0) by decide)) (fun _ => (mc_WP.run (mc_adjs _) 14 (And.intro ⟨rfl, (show ¬ (87 : Nat) = 0 by decide)⟩ (And.intro (wl_st rfl ((((h.1 c48).2.1 c49).2 c50).1 c51).1 (show 10 ≤ (87 : Nat) by decide)) ((((h.1 c48).2.1 c49).2 c50).1 c51).2))))))))) (fun c => absurd (show (0 : Int32) = 0 by decide) c)))))) (fun c51 => (mc_WP.run (mc_adjs _) 2 (mc_WP.run (mc_adjs _) 1 (And.intro (by decide) (mc_WP.run (mc_adjs _) 1 (And.intro (fun c => absurd c (show ¬ ((1 : Int32) = 0) by decide)) (fun _ => (mc_WP.run (mc_adjs _) 2 (mc_WP.run (mc_adjs _) 4 (And.intro rfl (And.intro rfl (And.intro (fun _ => (mc_WP.run (mc_adjs _) 1 ((((h.1 c48).2.1 c49).2 c50).2 c51))) (fun c => absurd (show ¬ (2 : Int32) = 0 by decide) c)))))))))))))))))))))))))) (fun c49 => (mc_WP.run (mc_adjs _) 2 (mc_WP.run (mc_adjs _) 1 (mc_WP.run (mc_adjs _) 4 (And.intro (by decide) (And.intro (by decide) (mc_inl (mc_WP.run (mc_adjs _) 3 (And.intro (fun c52 => (mc_WP.run (mc_adjs _) 2 (mc_WP.run (mc_adjs _) 1 (And.intro (by decide) (mc_WP.run (mc_adjs _) 1 (And.intro (fun c => absurd c (show ¬ ((1 : Int32) = 0) by decide)) (fun _ => (mc_WP.run (mc_adjs _) 2 (mc_WP.run (mc_adjs _) 4 (And.intro rfl (And.intro rfl (And.intro (fun _ => (mc_WP.run (mc_adjs _) 1 (((h.1 c48).2.2 c49).1 c52))) (fun c => absurd (show ¬ (2 : Int32) = 0 by decide) c))))))))))))) (fun c52 => (mc_WP.run (mc_adjs _) 3 (And.intro (fun c53 => (mc_WP.run (mc_adjs _) 2 (And.intro (by decide) (mc_WP.run (mc_adjs _) 1 (And.intro (fun _ => (mc_WP.run (mc_adjs _) 5 (And.intro rfl (And.intro rfl (And.intro (fun c => absurd c (show ¬ (¬ (0 : Int32) = 0) by decide)) (fun _ => (mc_WP.run (mc_adjs _) 14 (And.intro ⟨rfl, (show ¬ (87 : Nat) = 0 by decide)⟩ (And.intro (wl_st rfl ((((h.1 c48).2.2 c49).2 c52).1 c53).1 (show 10 ≤ (87 : Nat) by decide)) ((((h.1 c48).2.2 c49).2 c52).1 c53).2))))))))) (fun c => absurd (show (0 : Int32) = 0 by decide) c)))))) (fun c53 => (mc_WP.run (mc_adjs _) 2 (mc_WP.run (mc_adjs _) 1 (And.intro (by decide) (mc_WP.run (mc_adjs _) 1 (And.intro (fun c => absurd c (show ¬ ((1 : Int32) = 0) by decide)) (fun _ => (mc_WP.run (mc_adjs _) 2 (mc_WP.run (mc_adjs _) 4 (And.intro rfl (And.intro rfl (And.intro (fun _ => (mc_WP.run (mc_adjs _) 1 ((((h.1 c48).2.2 c49).2 c52).2 c53))) (fun c => absurd (show ¬ (2 : Int32) = 0 by decide) c))))))))))))))))))))))))))))))))))) (fun c48 => (mc_WP.run (mc_adjs _) 2 (mc_WP.run (mc_adjs _) 4 (And.intro rfl (And.intro rfl (And.intro (fun _ => (mc_WP.run (mc_adjs _) 1 (h.2 c48))) (fun c => absurd (show ¬ (1 : Int32) = 0 by decide) c)))))))))
-- 69 set(IIIIZ)V inl<=1
set_option maxRecDepth 20000 in
theorem bk_69_0 {x1 : Int32} {x2 : Int32} {x3 : Int32} {x4 : Int32} {x5 : Int32}
    (h : ∃ R : mc_Q, mc_WP (mc_en 58 [.ref 84, .int x1] (I, J, rf_w r, sh_w N, n)) R ∧ (∀ v t, R (.inl v) t → mc_WP (69, 5, [.ref 84, .int x1, .int x2, .int x3, .int x4, .int x5, .null], v.toList ++ [], t, (0, 0)) Q) ∧ (∀ k t, R (.inr k) t → Q (.inr k) t)) :
    mc_WP (mc_en 69 [.ref 84, .int x1, .int x2, .int x3, .int x4, .int x5] (I, J, rf_w r, sh_w N, n)) Q := by
  exact (mc_WP.run (mc_adjs _) 3 (And.intro rfl (And.intro (by decide) (And.intro (by decide) h))))
set_option maxRecDepth 20000 in
theorem bk_69_5 {x1 : Int32} {x2 : Int32} {x3 : Int32} {x4 : Int32} {x5 : Int32} {y0 : Int32}
    (h : (¬ y0 = 0 →
        (∃ R : mc_Q, mc_WP (mc_en 57 [.int x2, .int (0 : Int32), .int (3 : Int32)] (I, J, rf_w r, sh_w N, n)) R ∧ (∀ v t, R (.inl v) t → mc_WP (69, 23, [.ref 84, .int x1, .int x2, .int x3, .int x4, .int x5, .int y0], v.toList ++ [.ref 84], t, (0, 0)) Q) ∧ (∀ k t, R (.inr k) t → Q (.inr k) t))) ∧
        (¬ (¬ y0 = 0) →
        (Q (.inl none) ((mc_up I 84 0 (1 : Int32)), J, rf_w r, sh_w N, n)))) :
    mc_WP (69, 5, [.ref 84, .int x1, .int x2, .int x3, .int x4, .int x5, .null], [.int y0], (I, J, rf_w r, sh_w N, n), (0, 0)) Q := by
  exact (mc_WP.run (mc_adjs _) 4 (And.intro (fun c6 => (mc_WP.run (mc_adjs _) 4 (And.intro (by decide) (And.intro (by decide) (h.1 c6))))) (fun c6 => (mc_WP.run (mc_adjs _) 2 (mc_WP.run (mc_adjs _) 4 (And.intro rfl (And.intro rfl (And.intro (fun c => absurd c (show ¬ ((1 : Int32) ≤ 0) by decide)) (fun _ => (mc_WP.run (mc_adjs _) 1 (h.2 c6)))))))))))
set_option maxRecDepth 20000 in
theorem bk_69_23 {x1 : Int32} {x2 : Int32} {x3 : Int32} {x4 : Int32} {x5 : Int32} {x6 : Int32} {y1 : Int32}
    (h : (¬ y1 = 0 →
        (Q (.inl none) ((mc_up I 84 0 (2 : Int32)), J, rf_w r, sh_w N, n))) ∧
        (¬ (¬ y1 = 0) →
        (∃ R : mc_Q, mc_WP (mc_en 57 [.int x3, .int (0 : Int32), .int (255 : Int32)] (I, J, rf_w r, sh_w N, n)) R ∧ (∀ v t, R (.inl v) t → mc_WP (69, 34, [.ref 84, .int x1, .int x2, .int x3, .int x4, .int x5, .int x6], v.toList ++ [.ref 84], t, (0, 0)) Q) ∧ (∀ k t, R (.inr k) t → Q (.inr k) t)))) :
    mc_WP (69, 23, [.ref 84, .int x1, .int x2, .int x3, .int x4, .int x5, .int x6], [.int y1, .ref 84], (I, J, rf_w r, sh_w N, n), (0, 0)) Q := by
  exact (mc_WP.run (mc_adjs _) 1 (And.intro (fun c6 => (mc_WP.run (mc_adjs _) 2 (mc_WP.run (mc_adjs _) 4 (And.intro rfl (And.intro rfl (And.intro (fun c => absurd c (show ¬ ((2 : Int32) ≤ 0) by decide)) (fun _ => (mc_WP.run (mc_adjs _) 1 (h.1 c6))))))))) (fun c6 => (mc_WP.run (mc_adjs _) 4 (And.intro (by decide) (And.intro (by decide) (h.2 c6)))))))
set_option maxRecDepth 20000 in
theorem bk_69_34 {x1 : Int32} {x2 : Int32} {x3 : Int32} {x4 : Int32} {x5 : Int32} {x6 : Int32} {y1 : Int32}
    (h : (¬ y1 = 0 →
        (Q (.inl none) ((mc_up I 84 0 (2 : Int32)), J, rf_w r, sh_w N, n))) ∧
        (¬ (¬ y1 = 0) →
        (∃ R : mc_Q, mc_WP (mc_en 60 [.ref 84, .int x1] (I, J, rf_w r, sh_w N, n)) R ∧ (∀ v t, R (.inl v) t → mc_WP (69, 46, [.ref 84, .int x1, .int x2, .int x3, .int x4, .int x5, .int x6], v.toList ++ [.int (1 : Int32), .int (-1 : Int32), .int x4, .ref 84], t, (0, 0)) Q) ∧ (∀ k t, R (.inr k) t → Q (.inr k) t)))) :
    mc_WP (69, 34, [.ref 84, .int x1, .int x2, .int x3, .int x4, .int x5, .int x6], [.int y1, .ref 84], (I, J, rf_w r, sh_w N, n), (0, 0)) Q := by
  exact (mc_WP.run (mc_adjs _) 1 (And.intro (fun c6 => (mc_WP.run (mc_adjs _) 2 (mc_WP.run (mc_adjs _) 4 (And.intro rfl (And.intro rfl (And.intro (fun c => absurd c (show ¬ ((2 : Int32) ≤ 0) by decide)) (fun _ => (mc_WP.run (mc_adjs _) 1 (h.1 c6))))))))) (fun c6 => (mc_WP.run (mc_adjs _) 6 (And.intro rfl (And.intro (by decide) (And.intro (by decide) (h.2 c6))))))))
set_option maxRecDepth 20000 in
theorem bk_69_46 {x1 : Int32} {x2 : Int32} {x3 : Int32} {x4 : Int32} {x5 : Int32} {x6 : Int32} {y1 : Int32} {y2 : Int32} {y3 : Int32} {y4 : Int32}
    (h : ∃ R : mc_Q, mc_WP (mc_en 57 [.int y1, .int y2, .int ((y3 <<< (y4 &&& 31)) - (1 : Int32))] (I, J, rf_w r, sh_w N, n)) R ∧ (∀ v t, R (.inl v) t → mc_WP (69, 52, [.ref 84, .int x1, .int x2, .int x3, .int x4, .int x5, .int x6], v.toList ++ [.ref 84], t, (0, 0)) Q) ∧ (∀ k t, R (.inr k) t → Q (.inr k) t)) :
    mc_WP (69, 46, [.ref 84, .int x1, .int x2, .int x3, .int x4, .int x5, .int x6], [.int y4, .int y3, .int y2, .int y1, .ref 84], (I, J, rf_w r, sh_w N, n), (0, 0)) Q := by
  exact (mc_WP.run (mc_adjs _) 4 (And.intro (by decide) (And.intro (by decide) h)))
set_option maxRecDepth 20000 in
theorem bk_69_52 {x1 : Int32} {x2 : Int32} {x3 : Int32} {x4 : Int32} {x5 : Int32} {x6 : Int32} {y1 : Int32}
    (h : (y1 = 0 →
        (vp_in (((9 : Int32) * (x1 + (1 : Int32))) + (5 : Int32)) 45 ∧ vp_in (((9 : Int32) * (x1 + (1 : Int32))) + (6 : Int32)) 45 ∧ vp_in (((9 : Int32) * (x1 + (1 : Int32))) + (7 : Int32)) 45 ∧ (x5 = 0 →
          (vp_in (((9 : Int32) * (x1 + (1 : Int32))) + (8 : Int32)) 45 ∧ Q (.inl none) ((mc_up (mc_up (mc_up (mc_up (mc_up I 84 0 (0 : Int32)) 85 (((9 : Int32) * (x1 + (1 : Int32))) + (5 : Int32)).toNatClampNeg x2) 85 (((9 : Int32) * (x1 + (1 : Int32))) + (6 : Int32)).toNatClampNeg x3) 85 (((9 : Int32) * (x1 + (1 : Int32))) + (7 : Int32)).toNatClampNeg x4) 85 (((9 : Int32) * (x1 + (1 : Int32))) + (8 : Int32)).toNatClampNeg (0 : Int32)), J, rf_w r, sh_w N, n))) ∧
          (¬ (x5 = 0) →
          (vp_in (((9 : Int32) * (x1 + (1 : Int32))) + (8 : Int32)) 45 ∧ Q (.inl none) ((mc_up (mc_up (mc_up (mc_up (mc_up I 84 0 (0 : Int32)) 85 (((9 : Int32) * (x1 + (1 : Int32))) + (5 : Int32)).toNatClampNeg x2) 85 (((9 : Int32) * (x1 + (1 : Int32))) + (6 : Int32)).toNatClampNeg x3) 85 (((9 : Int32) * (x1 + (1 : Int32))) + (7 : Int32)).toNatClampNeg x4) 85 (((9 : Int32) * (x1 + (1 : Int32))) + (8 : Int32)).toNatClampNeg (1 : Int32)), J, rf_w r, sh_w N, n))))) ∧
        (¬ (y1 = 0) →
        (Q (.inl none) ((mc_up I 84 0 (2 : Int32)), J, rf_w r, sh_w N, n)))) :
    mc_WP (69, 52, [.ref 84, .int x1, .int x2, .int x3, .int x4, .int x5, .int x6], [.int y1, .ref 84], (I, J, rf_w r, sh_w N, n), (0, 0)) Q := by
  exact (mc_WP.run (mc_adjs _) 1 (And.intro (fun c10 => (mc_WP.run (mc_adjs _) 5 (And.intro rfl (And.intro rfl (And.intro (fun _ => (mc_WP.run (mc_adjs _) 44 (And.intro ⟨rfl, (show ¬ (85 : Nat) = 0 by decide)⟩ (And.intro (wl_st rfl (h.1 c10).1 (show 10 ≤ (85 : Nat) by decide)) (And.intro ⟨rfl, (show ¬ (85 : Nat) = 0 by decide)⟩ (And.intro (wl_st rfl (h.1 c10).2.1 (show 10 ≤ (85 : Nat) by decide)) (And.intro ⟨rfl, (show ¬ (85 : Nat) = 0 by decide)⟩ (And.intro (wl_st rfl (h.1 c10).2.2.1 (show 10 ≤ (85 : Nat) by decide)) (And.intro ⟨rfl, (show ¬ (85 : Nat) = 0 by decide)⟩ (And.intro (fun c11 => (mc_WP.run (mc_adjs _) 3 (And.intro (wl_st rfl ((h.1 c10).2.2.2.1 c11).1 (show 10 ≤ (85 : Nat) by decide)) ((h.1 c10).2.2.2.1 c11).2))) (fun c11 => (mc_WP.run (mc_adjs _) 2 (mc_WP.run (mc_adjs _) 2 (And.intro (wl_st rfl ((h.1 c10).2.2.2.2 c11).1 (show 10 ≤ (85 : Nat) by decide)) ((h.1 c10).2.2.2.2 c11).2)))))))))))))) (fun c => absurd (show (0 : Int32) ≤ 0 by decide) c)))))) (fun c10 => (mc_WP.run (mc_adjs _) 2 (mc_WP.run (mc_adjs _) 4 (And.intro rfl (And.intro rfl (And.intro (fun c => absurd c (show ¬ ((2 : Int32) ≤ 0) by decide)) (fun _ => (mc_WP.run (mc_adjs _) 1 (h.2 c10)))))))))))
-- 70 cut()I inl<=6
set_option maxRecDepth 20000 in
theorem bk_70_0
    (h : Q (.inl (some (.int (I 84 1)))) ((mc_up (mc_up I 84 0 (0 : Int32)) 84 1 (0 : Int32)), J, rf_w r, sh_w N, n)) :
    mc_WP (mc_en 70 [.ref 84] (I, J, rf_w r, sh_w N, n)) Q := by
  exact (mc_WP.run (mc_adjs _) 11 (And.intro rfl (And.intro rfl (And.intro rfl h))))
-- 71 frames()I inl<=6
set_option maxRecDepth 20000 in
theorem bk_71_0
    (h : Q (.inl (some (.int (I 84 1)))) ((mc_up I 84 0 (0 : Int32)), J, rf_w r, sh_w N, n)) :
    mc_WP (mc_en 71 [.ref 84] (I, J, rf_w r, sh_w N, n)) Q := by
  exact (mc_WP.run (mc_adjs _) 6 (And.intro rfl (And.intro rfl h)))
-- 72 get(II)I inl<=6
set_option maxRecDepth 20000 in
theorem bk_72_0 {x1 : Int32} {x2 : Int32}
    (h : (x1 = (-1 : Int32) →
        ((x2 < 0 →
          (Q (.inl (some (.int (0 : Int32)))) ((mc_up I 84 0 (1 : Int32)), J, rf_w r, sh_w N, n))) ∧
          (¬ (x2 < 0) →
          (((9 : Int32) ≤ x2 →
            (Q (.inl (some (.int (0 : Int32)))) ((mc_up I 84 0 (1 : Int32)), J, rf_w r, sh_w N, n))) ∧
            (¬ ((9 : Int32) ≤ x2) →
            (vp_in (((9 : Int32) * (x1 + (1 : Int32))) + x2) 45 ∧ (¬ x2 = (4 : Int32) →
              (Q (.inl (some (.int (I 85 (((9 : Int32) * (x1 + (1 : Int32))) + x2).toNatClampNeg)))) ((mc_up I 84 0 (0 : Int32)), J, rf_w r, sh_w N, n))) ∧
              (¬ (¬ x2 = (4 : Int32)) →
              ((¬ (I 85 (((9 : Int32) * (x1 + (1 : Int32))) + x2).toNatClampNeg) = 0 →
                (Q (.inl (some (.int ((1 : Int32) <<< ((I 85 (((9 : Int32) * (x1 + (1 : Int32))) + x2).toNatClampNeg) &&& 31))))) ((mc_up I 84 0 (0 : Int32)), J, rf_w r, sh_w N, n))) ∧
                (¬ (¬ (I 85 (((9 : Int32) * (x1 + (1 : Int32))) + x2).toNatClampNeg) = 0) →
                (Q (.inl (some (.int (0 : Int32)))) ((mc_up I 84 0 (0 : Int32)), J, rf_w r, sh_w N, n))))))))))) ∧
        (¬ (x1 = (-1 : Int32)) →
        ((x1 < 0 →
          (Q (.inl (some (.int (0 : Int32)))) ((mc_up I 84 0 (1 : Int32)), J, rf_w r, sh_w N, n))) ∧
          (¬ (x1 < 0) →
          (((I 84 1) ≤ x1 →
            (Q (.inl (some (.int (0 : Int32)))) ((mc_up I 84 0 (1 : Int32)), J, rf_w r, sh_w N, n))) ∧
            (¬ ((I 84 1) ≤ x1) →
            ((x2 < 0 →
              (Q (.inl (some (.int (0 : Int32)))) ((mc_up I 84 0 (1 : Int32)), J, rf_w r, sh_w N, n))) ∧
              (¬ (x2 < 0) →
              (((9 : Int32) ≤ x2 →
                (Q (.inl (some (.int (0 : Int32)))) ((mc_up I 84 0 (1 : Int32)), J, rf_w r, sh_w N, n))) ∧
                (¬ ((9 : Int32) ≤ x2) →
                (vp_in (((9 : Int32) * (x1 + (1 : Int32))) + x2) 45 ∧ (¬ x2 = (4 : Int32) →
                  (Q (.inl (some (.int (I 85 (((9 : Int32) * (x1 + (1 : Int32))) + x2).toNatClampNeg)))) ((mc_up I 84 0 (0 : Int32)), J, rf_w r, sh_w N, n))) ∧
                  (¬ (¬ x2 = (4 : Int32)) →
                  ((¬ (I 85 (((9 : Int32) * (x1 + (1 : Int32))) + x2).toNatClampNeg) = 0 →
                    (Q (.inl (some (.int ((1 : Int32) <<< ((I 85 (((9 : Int32) * (x1 + (1 : Int32))) + x2).toNatClampNeg) &&& 31))))) ((mc_up I 84 0 (0 : Int32)), J, rf_w r, sh_w N, n))) ∧
                    (¬ (¬ (I 85 (((9 : Int32) * (x1 + (1 : Int32))) + x2).toNatClampNeg) = 0) →
                    (Q (.inl (some (.int (0 : Int32)))) ((mc_up I 84 0 (0 : Int32)), J, rf_w r, sh_w N, n)))))))))))))))) :
    mc_WP (mc_en 72 [.ref 84, .int x1, .int x2] (I, J, rf_w r, sh_w N, n)) Q := by
  exact (mc_WP.run (mc_adjs _) 3 (And.intro (fun c56 => (mc_WP.run (mc_adjs _) 2 (And.intro (fun c57 => (mc_WP.run (mc_adjs _) 5 (And.intro (fun _ => (mc_WP.run (mc_adjs _) 4 (And.intro rfl (And.intro (fun c => absurd c (show ¬ (¬ (0 : Int32) = 0) by decide)) (fun _ => (mc_WP.run (mc_adjs _) 2 ((h.1 c56).1 c57))))))) (fun c => absurd (show (0 : Int32) = 0 by decide) c)))) (fun c57 => (mc_WP.run (mc_adjs _) 3 (And.intro (fun c58 => (mc_WP.run (mc_adjs _) 5 (And.intro (fun _ => (mc_WP.run (mc_adjs _) 4 (And.intro rfl (And.intro (fun c => absurd c (show ¬ (¬ (0 : Int32) = 0) by decide)) (fun _ => (mc_WP.run (mc_adjs _) 2 (((h.1 c56).2 c57).1 c58))))))) (fun c => absurd (show (0 : Int32) = 0 by decide) c)))) (fun c58 => (mc_WP.run (mc_adjs _) 2 (mc_WP.run (mc_adjs _) 4 (And.intro (fun c => absurd c (show ¬ ((1 : Int32) = 0) by decide)) (fun _ => (mc_WP.run (mc_adjs _) 2 (mc_WP.run (mc_adjs _) 3 (And.intro rfl (And.intro (fun _ => (mc_WP.run (mc_adjs _) 14 (And.intro ⟨rfl, (show ¬ (85 : Nat) = 0 by decide)⟩ (And.intro (wl_ld rfl (((h.1 c56).2 c57).2 c58).1) (And.intro (fun c59 => (mc_WP.run (mc_adjs _) 2 ((((h.1 c56).2 c57).2 c58).2.1 c59))) (fun c59 => (mc_WP.run (mc_adjs _) 2 (And.intro (fun c60 => (mc_WP.run (mc_adjs _) 4 (mc_WP.run (mc_adjs _) 1 (((((h.1 c56).2 c57).2 c58).2.2 c59).1 c60)))) (fun c60 => (mc_WP.run (mc_adjs _) 2 (mc_WP.run (mc_adjs _) 1 (((((h.1 c56).2 c57).2 c58).2.2 c59).2 c60)))))))))))) (fun c => absurd (show ¬ (1 : Int32) = 0 by decide) c)))))))))))))))) (fun c56 => (mc_WP.run (mc_adjs _) 3 (And.intro rfl (And.intro (by decide) (And.intro (by decide) (mc_inl (mc_WP.run (mc_adjs _) 2 (And.intro (fun c61 => (mc_WP.run (mc_adjs _) 2 (And.intro (by decide) (mc_WP.run (mc_adjs _) 1 (And.intro (fun _ => (mc_WP.run (mc_adjs _) 5 (And.intro (fun _ => (mc_WP.run (mc_adjs _) 4 (And.intro rfl (And.intro (fun c => absurd c (show ¬ (¬ (0 : Int32) = 0) by decide)) (fun _ => (mc_WP.run (mc_adjs _) 2 ((h.2 c56).1 c61))))))) (fun c => absurd (show (0 : Int32) = 0 by decide) c)))) (fun c => absurd (show (0 : Int32) = 0 by decide) c)))))) (fun c61 => (mc_WP.run (mc_adjs _) 4 (And.intro rfl (And.intro (fun c62 => (mc_WP.run (mc_adjs _) 2 (And.intro (by decide) (mc_WP.run (mc_adjs _) 1 (And.intro (fun _ => (mc_WP.run (mc_adjs _) 5 (And.intro (fun _ => (mc_WP.run (mc_adjs _) 4 (And.intro rfl (And.intro (fun c => absurd c (show ¬ (¬ (0 : Int32) = 0) by decide)) (fun _ => (mc_WP.run (mc_adjs _) 2 (((h.2 c56).2 c61).1 c62))))))) (fun c => absurd (show (0 : Int32) = 0 by decide) c)))) (fun c => absurd (show (0 : Int32) = 0 by decide) c)))))) (fun c62 => (mc_WP.run (mc_adjs _) 2 (mc_WP.run (mc_adjs _) 1 (And.intro (by decide) (mc_WP.run (mc_adjs _) 1 (And.intro (fun c => absurd c (show ¬ ((1 : Int32) = 0) by decide)) (fun _ => (mc_WP.run (mc_adjs _) 2 (And.intro (fun c63 => (mc_WP.run (mc_adjs _) 5 (And.intro (fun _ => (mc_WP.run (mc_adjs _) 4 (And.intro rfl (And.intro (fun c => absurd c (show ¬ (¬ (0 : Int32) = 0) by decide)) (fun _ => (mc_WP.run (mc_adjs _) 2 ((((h.2 c56).2 c61).2 c62).1 c63))))))) (fun c => absurd (show (0 : Int32) = 0 by decide) c)))) (fun c63 => (mc_WP.run (mc_adjs _) 3 (And.intro (fun c64 => (mc_WP.run (mc_adjs _) 5 (And.intro (fun _ => (mc_WP.run (mc_adjs _) 4 (And.intro rfl (And.intro (fun c => absurd c (show ¬ (¬ (0 : Int32) = 0) by decide)) (fun _ => (mc_WP.run (mc_adjs _) 2 (((((h.2 c56).2 c61).2 c62).2 c63).1 c64))))))) (fun c => absurd (show (0 : Int32) = 0 by decide) c)))) (fun c64 => (mc_WP.run (mc_adjs _) 2 (mc_WP.run (mc_adjs _) 4 (And.intro (fun c => absurd c (show ¬ ((1 : Int32) = 0) by decide)) (fun _ => (mc_WP.run (mc_adjs _) 2 (mc_WP.run (mc_adjs _) 3 (And.intro rfl (And.intro (fun _ => (mc_WP.run (mc_adjs _) 14 (And.intro ⟨rfl, (show ¬ (85 : Nat) = 0 by decide)⟩ (And.intro (wl_ld rfl (((((h.2 c56).2 c61).2 c62).2 c63).2 c64).1) (And.intro (fun c65 => (mc_WP.run (mc_adjs _) 2 ((((((h.2 c56).2 c61).2 c62).2 c63).2 c64).2.1 c65))) (fun c65 => (mc_WP.run (mc_adjs _) 2 (And.intro (fun c66 => (mc_WP.run (mc_adjs _) 4 (mc_WP.run (mc_adjs _) 1 (((((((h.2 c56).2 c61).2 c62).2 c63).2 c64).2.2 c65).1 c66)))) (fun c66 => (mc_WP.run (mc_adjs _) 2 (mc_WP.run (mc_adjs _) 1 (((((((h.2 c56).2 c61).2 c62).2 c63).2 c64).2.2 c65).2 c66)))))))))))) (fun c => absurd (show ¬ (1 : Int32) = 0 by decide) c))))))))))))))))))))))))))))))))))))
-- 73 colourOf(II)I inl<=6
set_option maxRecDepth 20000 in
theorem bk_73_0 {x1 : Int32} {x2 : Int32}
    (h : vp_in (((9 : Int32) * (x1 + (1 : Int32))) + (4 : Int32)) 45 ∧ ((I 85 (((9 : Int32) * (x1 + (1 : Int32))) + (4 : Int32)).toNatClampNeg) ≤ 0 →
        (vp_in (((16 : Int32) * (0 : Int32)) + x2) 80 ∧ Q (.inl (some (.int (I 86 (((16 : Int32) * (0 : Int32)) + x2).toNatClampNeg)))) (I, J, rf_w r, sh_w N, n))) ∧
        (¬ ((I 85 (((9 : Int32) * (x1 + (1 : Int32))) + (4 : Int32)).toNatClampNeg) ≤ 0) →
        (vp_in (((16 : Int32) * (x1 + (1 : Int32))) + x2) 80 ∧ Q (.inl (some (.int (I 86 (((16 : Int32) * (x1 + (1 : Int32))) + x2).toNatClampNeg)))) (I, J, rf_w r, sh_w N, n)))) :
    mc_WP (mc_en 73 [.ref 84, .int x1, .int x2] (I, J, rf_w r, sh_w N, n)) Q := by
  exact (mc_WP.run (mc_adjs _) 11 (And.intro ⟨rfl, (show ¬ (85 : Nat) = 0 by decide)⟩ (And.intro (wl_ld rfl h.1) (And.intro (fun c5 => (mc_WP.run (mc_adjs _) 11 (And.intro ⟨rfl, (show ¬ (86 : Nat) = 0 by decide)⟩ (And.intro (wl_ld rfl (h.2.1 c5).1) (h.2.1 c5).2)))) (fun c5 => (mc_WP.run (mc_adjs _) 4 (mc_WP.run (mc_adjs _) 10 (And.intro ⟨rfl, (show ¬ (86 : Nat) = 0 by decide)⟩ (And.intro (wl_ld rfl (h.2.2 c5).1) (h.2.2 c5).2)))))))))
-- 74 colourAt(II)I inl<=1
set_option maxRecDepth 20000 in
theorem bk_74_0 {x1 : Int32} {x2 : Int32}
    (h : (x1 = (-1 : Int32) →
        ((x2 < 0 →
          (Q (.inl (some (.int (0 : Int32)))) ((mc_up I 84 0 (1 : Int32)), J, rf_w r, sh_w N, n))) ∧
          (¬ (x2 < 0) →
          (∃ R : mc_Q, mc_WP (mc_en 60 [.ref 84, .int x1] (I, J, rf_w r, sh_w N, n)) R ∧ (∀ v t, R (.inl v) t → mc_WP (74, 24, [.ref 84, .int x1, .int x2, .null], v.toList ++ [.int (1 : Int32), .int x2], t, (0, 0)) Q) ∧ (∀ k t, R (.inr k) t → Q (.inr k) t))))) ∧
        (¬ (x1 = (-1 : Int32)) →
        (∃ R : mc_Q, mc_WP (mc_en 58 [.ref 84, .int x1] (I, J, rf_w r, sh_w N, n)) R ∧ (∀ v t, R (.inl v) t → mc_WP (74, 10, [.ref 84, .int x1, .int x2, .null], v.toList ++ [], t, (0, 0)) Q) ∧ (∀ k t, R (.inr k) t → Q (.inr k) t)))) :
    mc_WP (mc_en 74 [.ref 84, .int x1, .int x2] (I, J, rf_w r, sh_w N, n)) Q := by
  exact (mc_WP.run (mc_adjs _) 3 (And.intro (fun c8 => (mc_WP.run (mc_adjs _) 2 (And.intro (fun c9 => (mc_WP.run (mc_adjs _) 5 (And.intro (fun _ => (mc_WP.run (mc_adjs _) 4 (And.intro rfl (And.intro (fun _ => (mc_WP.run (mc_adjs _) 2 ((h.1 c8).1 c9))) (fun c => absurd (show (0 : Int32) = 0 by decide) c))))) (fun c => absurd (show (0 : Int32) = 0 by decide) c)))) (fun c9 => (mc_WP.run (mc_adjs _) 5 (And.intro rfl (And.intro (by decide) (And.intro (by decide) ((h.1 c8).2 c9))))))))) (fun c8 => (mc_WP.run (mc_adjs _) 3 (And.intro rfl (And.intro (by decide) (And.intro (by decide) (h.2 c8))))))))
set_option maxRecDepth 20000 in
theorem bk_74_10 {x1 : Int32} {x2 : Int32} {y0 : Int32}
    (h : (y0 = 0 →
        (Q (.inl (some (.int (0 : Int32)))) ((mc_up I 84 0 (1 : Int32)), J, rf_w r, sh_w N, n))) ∧
        (¬ (y0 = 0) →
        ((x2 < 0 →
          (Q (.inl (some (.int (0 : Int32)))) ((mc_up I 84 0 (1 : Int32)), J, rf_w r, sh_w N, n))) ∧
          (¬ (x2 < 0) →
          (∃ R : mc_Q, mc_WP (mc_en 60 [.ref 84, .int x1] (I, J, rf_w r, sh_w N, n)) R ∧ (∀ v t, R (.inl v) t → mc_WP (74, 24, [.ref 84, .int x1, .int x2, .null], v.toList ++ [.int (1 : Int32), .int x2], t, (0, 0)) Q) ∧ (∀ k t, R (.inr k) t → Q (.inr k) t)))))) :
    mc_WP (74, 10, [.ref 84, .int x1, .int x2, .null], [.int y0], (I, J, rf_w r, sh_w N, n), (0, 0)) Q := by
  exact (mc_WP.run (mc_adjs _) 1 (And.intro (fun c10 => (mc_WP.run (mc_adjs _) 5 (And.intro (fun _ => (mc_WP.run (mc_adjs _) 4 (And.intro rfl (And.intro (fun _ => (mc_WP.run (mc_adjs _) 2 (h.1 c10))) (fun c => absurd (show (0 : Int32) = 0 by decide) c))))) (fun c => absurd (show (0 : Int32) = 0 by decide) c)))) (fun c10 => (mc_WP.run (mc_adjs _) 2 (And.intro (fun c11 => (mc_WP.run (mc_adjs _) 5 (And.intro (fun _ => (mc_WP.run (mc_adjs _) 4 (And.intro rfl (And.intro (fun _ => (mc_WP.run (mc_adjs _) 2 ((h.2 c10).1 c11))) (fun c => absurd (show (0 : Int32) = 0 by decide) c))))) (fun c => absurd (show (0 : Int32) = 0 by decide) c)))) (fun c11 => (mc_WP.run (mc_adjs _) 5 (And.intro rfl (And.intro (by decide) (And.intro (by decide) ((h.2 c10).2 c11)))))))))))
set_option maxRecDepth 20000 in
theorem bk_74_24 {x1 : Int32} {x2 : Int32} {y0 : Int32} {y1 : Int32} {y2 : Int32}
    (h : ((y1 <<< (y2 &&& 31)) ≤ y0 →
        (Q (.inl (some (.int (0 : Int32)))) ((mc_up I 84 0 (1 : Int32)), J, rf_w r, sh_w N, n))) ∧
        (¬ ((y1 <<< (y2 &&& 31)) ≤ y0) →
        (∃ R : mc_Q, mc_WP (mc_en 73 [.ref 84, .int x1, .int x2] ((mc_up I 84 0 (0 : Int32)), J, rf_w r, sh_w N, n)) R ∧ (∀ v t, R (.inl v) t → mc_WP (74, 57, [.ref 84, .int x1, .int x2, .int (1 : Int32)], v.toList ++ [], t, (0, 0)) Q) ∧ (∀ k t, R (.inr k) t → Q (.inr k) t)))) :
    mc_WP (74, 24, [.ref 84, .int x1, .int x2, .null], [.int y2, .int y1, .int y0], (I, J, rf_w r, sh_w N, n), (0, 0)) Q := by
  exact (mc_WP.run (mc_adjs _) 2 (And.intro (fun c10 => (mc_WP.run (mc_adjs _) 5 (And.intro (fun _ => (mc_WP.run (mc_adjs _) 4 (And.intro rfl (And.intro (fun _ => (mc_WP.run (mc_adjs _) 2 (h.1 c10))) (fun c => absurd (show (0 : Int32) = 0 by decide) c))))) (fun c => absurd (show (0 : Int32) = 0 by decide) c)))) (fun c10 => (mc_WP.run (mc_adjs _) 2 (mc_WP.run (mc_adjs _) 4 (And.intro (fun c => absurd c (show ¬ ((1 : Int32) = 0) by decide)) (fun _ => (mc_WP.run (mc_adjs _) 2 (mc_WP.run (mc_adjs _) 3 (And.intro rfl (And.intro (fun c => absurd c (show ¬ ((1 : Int32) = 0) by decide)) (fun _ => (mc_WP.run (mc_adjs _) 4 (And.intro rfl (And.intro (by decide) (And.intro (by decide) (h.2 c10)))))))))))))))))
set_option maxRecDepth 20000 in
theorem bk_74_57 {x1 : Int32} {x2 : Int32} {x3 : Int32} {y0 : Int32}
    (h : Q (.inl (some (.int y0))) (I, J, rf_w r, sh_w N, n)) :
    mc_WP (74, 57, [.ref 84, .int x1, .int x2, .int x3], [.int y0], (I, J, rf_w r, sh_w N, n), (0, 0)) Q := by
  exact (mc_WP.run (mc_adjs _) 1 (mc_WP.run (mc_adjs _) 1 h))
-- 75 pixelAt(III)I inl<=6
set_option maxRecDepth 20000 in
theorem bk_75_0 {x1 : Int32} {x2 : Int32} {x3 : Int32}
    (h : ∃ R : mc_Q, mc_WP (mc_en 67 [.ref 84, .int x1, .int x2, .int x3] (I, J, rf_w r, sh_w N, n)) R ∧ (∀ v t, R (.inl v) t → mc_WP (75, 7, [.ref 84, .int x1, .int x2, .int x3, .null], v.toList ++ [], t, (0, 0)) Q) ∧ (∀ k t, R (.inr k) t → Q (.inr k) t)) :
    mc_WP (mc_en 75 [.ref 84, .int x1, .int x2, .int x3] (I, J, rf_w r, sh_w N, n)) Q := by
  exact (mc_WP.run (mc_adjs _) 5 (And.intro rfl (And.intro (by decide) (And.intro (by decide) h))))
set_option maxRecDepth 20000 in
theorem bk_75_7 {x1 : Int32} {x2 : Int32} {x3 : Int32} {y0 : Int32}
    (h : (y0 = 0 →
        ((y0 = 0 →
          (Q (.inl (some (.int (0 : Int32)))) ((mc_up I 84 0 (1 : Int32)), J, rf_w r, sh_w N, n))) ∧
          (¬ (y0 = 0) →
          (vp_in ((((64 : Int32) * x1) + ((8 : Int32) * x3)) + x2) 256 ∧ Q (.inl (some (.int (I 87 ((((64 : Int32) * x1) + ((8 : Int32) * x3)) + x2).toNatClampNeg)))) ((mc_up I 84 0 (1 : Int32)), J, rf_w r, sh_w N, n))))) ∧
        (¬ (y0 = 0) →
        ((y0 = 0 →
          (Q (.inl (some (.int (0 : Int32)))) ((mc_up I 84 0 (0 : Int32)), J, rf_w r, sh_w N, n))) ∧
          (¬ (y0 = 0) →
          (vp_in ((((64 : Int32) * x1) + ((8 : Int32) * x3)) + x2) 256 ∧ Q (.inl (some (.int (I 87 ((((64 : Int32) * x1) + ((8 : Int32) * x3)) + x2).toNatClampNeg)))) ((mc_up I 84 0 (0 : Int32)), J, rf_w r, sh_w N, n)))))) :
    mc_WP (75, 7, [.ref 84, .int x1, .int x2, .int x3, .null], [.int y0], (I, J, rf_w r, sh_w N, n), (0, 0)) Q := by
  exact (mc_WP.run (mc_adjs _) 4 (And.intro (fun c11 => (mc_WP.run (mc_adjs _) 4 (And.intro rfl (And.intro (fun c12 => (mc_WP.run (mc_adjs _) 2 ((h.1 c11).1 c12))) (fun c12 => (mc_WP.run (mc_adjs _) 13 (And.intro ⟨rfl, (show ¬ (87 : Nat) = 0 by decide)⟩ (And.intro (wl_ld rfl ((h.1 c11).2 c12).1) (mc_WP.run (mc_adjs _) 1 ((h.1 c11).2 c12).2))))))))) (fun c11 => (mc_WP.run (mc_adjs _) 2 (mc_WP.run (mc_adjs _) 3 (And.intro rfl (And.intro (fun c13 => (mc_WP.run (mc_adjs _) 2 ((h.2 c11).1 c13))) (fun c13 => (mc_WP.run (mc_adjs _) 13 (And.intro ⟨rfl, (show ¬ (87 : Nat) = 0 by decide)⟩ (And.intro (wl_ld rfl ((h.2 c11).2 c13).1) (mc_WP.run (mc_adjs _) 1 ((h.2 c11).2 c13).2))))))))))))
-- 76 rowOf(IIZ)I joins inl<=6
set_option maxRecDepth 20000 in
theorem bk_76_0 {x0 : Int32} {x1 : Int32} {x2 : Int32}
    (h : mc_WP (76, 8, [.int x0, .int x1, .int x2, .int (0 : Int32), .int x0, .int (0 : Int32), .null, .null], [], (I, J, rf_w r, sh_w N, n), (0, 0)) Q) :
    mc_WP (mc_en 76 [.int x0, .int x1, .int x2] (I, J, rf_w r, sh_w N, n)) Q := by
  exact (mc_WP.run (mc_adjs _) 6 h)
set_option maxRecDepth 20000 in
theorem bk_76_8 {x0 : Int32} {x1 : Int32} {x2 : Int32} {x3 : Int32} {x4 : Int32} {x5 : Int32} {x6 : Value} {x7 : Value}
    (h : ((4 : Int32) ≤ x5 →
        (mc_WP (76, 152, [.int x0, .int x1, .int x2, .int x3, .int x4, .int x5, x6, x7], [], (I, J, rf_w r, sh_w N, n), (0, 0)) Q)) ∧
        (¬ ((4 : Int32) ≤ x5) →
        ((x2 = 0 →
          (mc_WP (76, 152, [.int x0, .int x1, .int x2, .int x3, .int x4, .int x5, x6, x7], [], (I, J, rf_w r, sh_w N, n), (0, 0)) Q)) ∧
          (¬ (x2 = 0) →
          (mc_WP (76, 21, [.int x0, .int x1, .int x2, .int x3, .int x4, .int x5, .int (0 : Int32), x7], [], (I, J, rf_w r, sh_w N, n), (0, 0)) Q))))) :
    mc_WP (76, 8, [.int x0, .int x1, .int x2, .int x3, .int x4, .int x5, x6, x7], [], (I, J, rf_w r, sh_w N, n), (0, 0)) Q := by
  exact (mc_WP.run (mc_adjs _) 3 (And.intro (fun c4 => (h.1 c4)) (fun c4 => (mc_WP.run (mc_adjs _) 2 (And.intro (fun c5 => ((h.2 c4).1 c5)) (fun c5 => (mc_WP.run (mc_adjs _) 2 ((h.2 c4).2 c5))))))))
set_option maxRecDepth 20000 in
theorem bk_76_21 {x0 : Int32} {x1 : Int32} {x2 : Int32} {x3 : Int32} {x4 : Int32} {x5 : Int32} {x6 : Int32} {x7 : Value}
    (h : (x1 ≤ x6 →
        (mc_WP (76, 8, [.int x0, .int x1, .int x2, .int x3, .int x4, .int (x5 + (1 : Int32)), .int x6, x7], [], (I, J, rf_w r, sh_w N, n), (0, 0)) Q)) ∧
        (¬ (x1 ≤ x6) →
        ((¬ x5 = 0 →
          ((¬ x5 = (1 : Int32) →
            ((¬ x5 = (2 : Int32) →
              (¬ (2 : Int32) = 0 ∧ (¬ (x6 - x6 / (2 : Int32) * (2 : Int32)) = (1 : Int32) →
                (mc_WP (76, 106, [.int x0, .int x1, .int x2, .int x3, .int x4, .int x5, .int x6, x7], [.int (0 : Int32)], (I, J, rf_w r, sh_w N, n), (0, 0)) Q)) ∧
                (¬ (¬ (x6 - x6 / (2 : Int32) * (2 : Int32)) = (1 : Int32)) →
                (mc_WP (76, 106, [.int x0, .int x1, .int x2, .int x3, .int x4, .int x5, .int x6, x7], [.int (1 : Int32)], (I, J, rf_w r, sh_w N, n), (0, 0)) Q)))) ∧
              (¬ (¬ x5 = (2 : Int32)) →
              (¬ (4 : Int32) = 0 ∧ (¬ (x6 - x6 / (4 : Int32) * (4 : Int32)) = (2 : Int32) →
                (mc_WP (76, 106, [.int x0, .int x1, .int x2, .int x3, .int x4, .int x5, .int x6, x7], [.int (0 : Int32)], (I, J, rf_w r, sh_w N, n), (0, 0)) Q)) ∧
                (¬ (¬ (x6 - x6 / (4 : Int32) * (4 : Int32)) = (2 : Int32)) →
                (mc_WP (76, 106, [.int x0, .int x1, .int x2, .int x3, .int x4, .int x5, .int x6, x7], [.int (1 : Int32)], (I, J, rf_w r, sh_w N, n), (0, 0)) Q)))))) ∧
            (¬ (¬ x5 = (1 : Int32)) →
            (¬ (8 : Int32) = 0 ∧ (¬ (x6 - x6 / (8 : Int32) * (8 : Int32)) = (4 : Int32) →
              (mc_WP (76, 106, [.int x0, .int x1, .int x2, .int x3, .int x4, .int x5, .int x6, x7], [.int (0 : Int32)], (I, J, rf_w r, sh_w N, n), (0, 0)) Q)) ∧
              (¬ (¬ (x6 - x6 / (8 : Int32) * (8 : Int32)) = (4 : Int32)) →
              (mc_WP (76, 106, [.int x0, .int x1, .int x2, .int x3, .int x4, .int x5, .int x6, x7], [.int (1 : Int32)], (I, J, rf_w r, sh_w N, n), (0, 0)) Q)))))) ∧
          (¬ (¬ x5 = 0) →
          (¬ (8 : Int32) = 0 ∧ (¬ (x6 - x6 / (8 : Int32) * (8 : Int32)) = 0 →
            (mc_WP (76, 106, [.int x0, .int x1, .int x2, .int x3, .int x4, .int x5, .int x6, x7], [.int (0 : Int32)], (I, J, rf_w r, sh_w N, n), (0, 0)) Q)) ∧
            (¬ (¬ (x6 - x6 / (8 : Int32) * (8 : Int32)) = 0) →
            (mc_WP (76, 106, [.int x0, .int x1, .int x2, .int x3, .int x4, .int x5, .int x6, x7], [.int (1 : Int32)], (I, J, rf_w r, sh_w N, n), (0, 0)) Q))))))) :
    mc_WP (76, 21, [.int x0, .int x1, .int x2, .int x3, .int x4, .int x5, .int x6, x7], [], (I, J, rf_w r, sh_w N, n), (0, 0)) Q := by
  exact (mc_WP.run (mc_adjs _) 3 (And.intro (fun c18 => (mc_WP.run (mc_adjs _) 2 (h.1 c18))) (fun c18 => (mc_WP.run (mc_adjs _) 2 (And.intro (fun c19 => (mc_WP.run (mc_adjs _) 3 (And.intro (fun c20 => (mc_WP.run (mc_adjs _) 3 (And.intro (fun c21 => (mc_WP.run (mc_adjs _) 5 (And.intro (by decide) (And.intro (fun c22 => (mc_WP.run (mc_adjs _) 1 (((((h.2 c18).1 c19).1 c20).1 c21).2.1 c22))) (fun c22 => (mc_WP.run (mc_adjs _) 2 (((((h.2 c18).1 c19).1 c20).1 c21).2.2 c22))))))) (fun c21 => (mc_WP.run (mc_adjs _) 5 (And.intro (by decide) (And.intro (fun c23 => (mc_WP.run (mc_adjs _) 2 (((((h.2 c18).1 c19).1 c20).2 c21).2.1 c23))) (fun c23 => (mc_WP.run (mc_adjs _) 2 (((((h.2 c18).1 c19).1 c20).2 c21).2.2 c23)))))))))) (fun c20 => (mc_WP.run (mc_adjs _) 5 (And.intro (by decide) (And.intro (fun c24 => (mc_WP.run (mc_adjs _) 2 ((((h.2 c18).1 c19).2 c20).2.1 c24))) (fun c24 => (mc_WP.run (mc_adjs _) 2 ((((h.2 c18).1 c19).2 c20).2.2 c24)))))))))) (fun c19 => (mc_WP.run (mc_adjs _) 4 (And.intro (by decide) (And.intro (fun c25 => (mc_WP.run (mc_adjs _) 2 (((h.2 c18).2 c19).2.1 c25))) (fun c25 => (mc_WP.run (mc_adjs _) 2 (((h.2 c18).2 c19).2.2 c25))))))))))))
set_option maxRecDepth 20000 in
theorem bk_76_106 {x0 : Int32} {x1 : Int32} {x2 : Int32} {x3 : Int32} {x4 : Int32} {x5 : Int32} {x6 : Int32} {x7 : Value} {y0 : Int32}
    (h : (y0 = 0 →
        (mc_WP (76, 123, [.int x0, .int x1, .int x2, .int x3, .int x4, .int x5, .int x6, .int y0], [], (I, J, rf_w r, sh_w N, n), (0, 0)) Q)) ∧
        (¬ (y0 = 0) →
        ((¬ x3 = x0 →
          (mc_WP (76, 123, [.int x0, .int x1, .int x2, .int x3, .int x4, .int x5, .int x6, .int y0], [], (I, J, rf_w r, sh_w N, n), (0, 0)) Q)) ∧
          (¬ (¬ x3 = x0) →
          (mc_WP (76, 125, [.int x0, .int x1, .int x2, .int x3, .int x4, .int x5, .int x6, .int y0], [.int x6], (I, J, rf_w r, sh_w N, n), (0, 0)) Q))))) :
    mc_WP (76, 106, [.int x0, .int x1, .int x2, .int x3, .int x4, .int x5, .int x6, x7], [.int y0], (I, J, rf_w r, sh_w N, n), (0, 0)) Q := by
  exact (mc_WP.run (mc_adjs _) 3 (And.intro (fun c4 => (h.1 c4)) (fun c4 => (mc_WP.run (mc_adjs _) 3 (And.intro (fun c5 => ((h.2 c4).1 c5)) (fun c5 => (mc_WP.run (mc_adjs _) 2 ((h.2 c4).2 c5))))))))
set_option maxRecDepth 20000 in
theorem bk_76_123 {x0 : Int32} {x1 : Int32} {x2 : Int32} {x3 : Int32} {x4 : Int32} {x5 : Int32} {x6 : Int32} {x7 : Int32}
    (h : mc_WP (76, 125, [.int x0, .int x1, .int x2, .int x3, .int x4, .int x5, .int x6, .int x7], [.int x4], (I, J, rf_w r, sh_w N, n), (0, 0)) Q) :
    mc_WP (76, 123, [.int x0, .int x1, .int x2, .int x3, .int x4, .int x5, .int x6, .int x7], [], (I, J, rf_w r, sh_w N, n), (0, 0)) Q := by
  exact (mc_WP.run (mc_adjs _) 1 h)
set_option maxRecDepth 20000 in
theorem bk_76_125 {x0 : Int32} {x1 : Int32} {x2 : Int32} {x3 : Int32} {x4 : Int32} {x5 : Int32} {x6 : Int32} {x7 : Int32} {y0 : Int32}
    (h : (x7 = 0 →
        (mc_WP (76, 139, [.int x0, .int x1, .int x2, .int x3, .int y0, .int x5, .int x6, .int x7], [.int x3], (I, J, rf_w r, sh_w N, n), (0, 0)) Q)) ∧
        (¬ (x7 = 0) →
        (mc_WP (76, 139, [.int x0, .int x1, .int x2, .int x3, .int y0, .int x5, .int x6, .int x7], [.int (x3 + (1 : Int32))], (I, J, rf_w r, sh_w N, n), (0, 0)) Q))) :
    mc_WP (76, 125, [.int x0, .int x1, .int x2, .int x3, .int x4, .int x5, .int x6, .int x7], [.int y0], (I, J, rf_w r, sh_w N, n), (0, 0)) Q := by
  exact (mc_WP.run (mc_adjs _) 3 (And.intro (fun c4 => (mc_WP.run (mc_adjs _) 1 (h.1 c4))) (fun c4 => (mc_WP.run (mc_adjs _) 4 (h.2 c4)))))
set_option maxRecDepth 20000 in
theorem bk_76_139 {x0 : Int32} {x1 : Int32} {x2 : Int32} {x3 : Int32} {x4 : Int32} {x5 : Int32} {x6 : Int32} {x7 : Int32} {y0 : Int32}
    (h : mc_WP (76, 21, [.int x0, .int x1, .int x2, .int y0, .int x4, .int x5, .int (x6 + (1 : Int32)), .int x7], [], (I, J, rf_w r, sh_w N, n), (0, 0)) Q) :
    mc_WP (76, 139, [.int x0, .int x1, .int x2, .int x3, .int x4, .int x5, .int x6, .int x7], [.int y0], (I, J, rf_w r, sh_w N, n), (0, 0)) Q := by
  exact (mc_WP.run (mc_adjs _) 3 h)
set_option maxRecDepth 20000 in
theorem bk_76_152 {x0 : Int32} {x1 : Int32} {x2 : Int32} {x3 : Int32} {x4 : Int32} {x5 : Int32} {x6 : Value} {x7 : Value}
    (h : Q (.inl (some (.int x4))) (I, J, rf_w r, sh_w N, n)) :
    mc_WP (76, 152, [.int x0, .int x1, .int x2, .int x3, .int x4, .int x5, x6, x7], [], (I, J, rf_w r, sh_w N, n), (0, 0)) Q := by
  exact (mc_WP.run (mc_adjs _) 2 h)
-- 77 begin(I)V inl<=6
set_option maxRecDepth 20000 in
theorem bk_77_0 {x1 : Int32}
    (h : mc_WP (77, 9, [.ref 84, .int x1, .int (0 : Int32)], [], ((mc_up I 84 19 ((1 : Int32) <<< (x1 &&& 31))), J, rf_w r, sh_w N, n), (0, 0)) Q) :
    mc_WP (mc_en 77 [.ref 84, .int x1] (I, J, rf_w r, sh_w N, n)) Q := by
  exact (mc_WP.run (mc_adjs _) 7 (And.intro rfl h))
set_option maxRecDepth 20000 in
theorem bk_77_9 {x1 : Int32} {x2 : Int32}
    (h : ((I 84 19) ≤ x2 →
        (Q (.inl none) ((mc_up (mc_up I 84 18 ((I 84 19) + (2 : Int32))) 84 20 (-1 : Int32)), J, rf_w r, sh_w N, n))) ∧
        (¬ ((I 84 19) ≤ x2) →
        (vp_in x2 64 ∧ vp_in x2 64 ∧ vp_in x2 64 ∧ vp_in x2 64 ∧ mc_WP (77, 9, [.ref 84, .int x1, .int (x2 + (1 : Int32))], [], ((mc_up (mc_up (mc_up (mc_up I 95 x2.toNatClampNeg (-1 : Int32)) 96 x2.toNatClampNeg x2) 97 x2.toNatClampNeg x2) 98 x2.toNatClampNeg (1 : Int32)), J, rf_w r, sh_w N, n), (0, 0)) Q))) :
    mc_WP (77, 9, [.ref 84, .int x1, .int x2], [], (I, J, rf_w r, sh_w N, n), (0, 0)) Q := by
  exact (mc_WP.run (mc_adjs _) 4 (And.intro rfl (And.intro (fun c6 => (mc_WP.run (mc_adjs _) 2 (And.intro rfl (And.intro (by decide) (And.intro (by decide) (mc_inl (mc_WP.run (mc_adjs _) 10 (And.intro rfl (And.intro rfl (And.intro rfl (mc_WP.run (mc_adjs _) 1 (h.1 c6)))))))))))) (fun c6 => (mc_WP.run (mc_adjs _) 22 (And.intro ⟨rfl, (show ¬ (95 : Nat) = 0 by decide)⟩ (And.intro (wl_st rfl (h.2 c6).1 (show 10 ≤ (95 : Nat) by decide)) (And.intro ⟨rfl, (show ¬ (96 : Nat) = 0 by decide)⟩ (And.intro (wl_st rfl (h.2 c6).2.1 (show 10 ≤ (96 : Nat) by decide)) (And.intro ⟨rfl, (show ¬ (97 : Nat) = 0 by decide)⟩ (And.intro (wl_st rfl (h.2 c6).2.2.1 (show 10 ≤ (97 : Nat) by decide)) (And.intro ⟨rfl, (show ¬ (98 : Nat) = 0 by decide)⟩ (And.intro (wl_st rfl (h.2 c6).2.2.2.1 (show 10 ≤ (98 : Nat) by decide)) (h.2 c6).2.2.2.2)))))))))))))
-- 78 refresh()V inl<=6
set_option maxRecDepth 20000 in
theorem bk_78_0
    (h : Q (.inl none) ((mc_up (mc_up I 84 18 ((I 84 19) + (2 : Int32))) 84 20 (-1 : Int32)), J, rf_w r, sh_w N, n)) :
    mc_WP (mc_en 78 [.ref 84] (I, J, rf_w r, sh_w N, n)) Q := by
  exact (mc_WP.run (mc_adjs _) 10 (And.intro rfl (And.intro rfl (And.intro rfl h))))
-- 79 width()I inl<=6
set_option maxRecDepth 20000 in
theorem bk_79_0
    (h : (0 ≤ (I 84 20) →
        (((I 84 18) ≤ (63 : Int32) →
          (mc_WP (79, 37, [.ref 84, .int (I 84 18), .int (0 : Int32)], [], (I, J, rf_w r, sh_w N, n), (0, 0)) Q)) ∧
          (¬ ((I 84 18) ≤ (63 : Int32)) →
          (mc_WP (79, 37, [.ref 84, .int (63 : Int32), .int (0 : Int32)], [], (I, J, rf_w r, sh_w N, n), (0, 0)) Q)))) ∧
        (¬ (0 ≤ (I 84 20)) →
        (mc_WP (79, 37, [.ref 84, .int ((I 84 19) + (1 : Int32)), .int (0 : Int32)], [], (I, J, rf_w r, sh_w N, n), (0, 0)) Q))) :
    mc_WP (mc_en 79 [.ref 84] (I, J, rf_w r, sh_w N, n)) Q := by
  exact (mc_WP.run (mc_adjs _) 3 (And.intro rfl (And.intro (fun c8 => (mc_WP.run (mc_adjs _) 4 (And.intro rfl (And.intro (fun c9 => (mc_WP.run (mc_adjs _) 5 (And.intro rfl ((h.1 c8).1 c9)))) (fun c9 => (mc_WP.run (mc_adjs _) 2 (mc_WP.run (mc_adjs _) 3 ((h.1 c8).2 c9)))))))) (fun c8 => (mc_WP.run (mc_adjs _) 5 (And.intro rfl (mc_WP.run (mc_adjs _) 3 (h.2 c8))))))))
set_option maxRecDepth 20000 in
theorem bk_79_37 {x1 : Int32} {x2 : Int32}
    (h : ((x1 >>> (x2 &&& 31)) ≤ 0 → (Q (.inl (some (.int x2))) (I, J, rf_w r, sh_w N, n))) ∧
        (¬ ((x1 >>> (x2 &&& 31)) ≤ 0) →
        (mc_WP (79, 37, [.ref 84, .int x1, .int (x2 + (1 : Int32))], [], (I, J, rf_w r, sh_w N, n), (0, 0)) Q))) :
    mc_WP (79, 37, [.ref 84, .int x1, .int x2], [], (I, J, rf_w r, sh_w N, n), (0, 0)) Q := by
  exact (mc_WP.run (mc_adjs _) 4 (And.intro (fun c4 => (mc_WP.run (mc_adjs _) 2 (h.1 c4))) (fun c4 => (mc_WP.run (mc_adjs _) 2 (h.2 c4)))))
-- 80 enter(I)V inl<=6
set_option maxRecDepth 20000 in
theorem bk_80_0 {x1 : Int32}
    (h : ((I 84 20) < 0 → (Q (.inl none) ((mc_up I 84 20 x1), J, rf_w r, sh_w N, n))) ∧
        (¬ ((I 84 20) < 0) →
        (((64 : Int32) ≤ (I 84 18) → (Q (.inl none) ((mc_up I 84 20 x1), J, rf_w r, sh_w N, n))) ∧
          (¬ ((64 : Int32) ≤ (I 84 18)) →
          (vp_in (I 84 18) 64 ∧ vp_in (I 84 20) 64 ∧ vp_in (I 84 18) 64 ∧ (¬ x1 = (I 84 18) →
            (vp_in x1 64 ∧ vp_in (I 84 18) 64 ∧ vp_in (I 84 20) 64 ∧ vp_in (I 84 18) 64 ∧ Q (.inl none) ((mc_up (mc_up (mc_up (mc_up (mc_up (mc_up I 95 (I 84 18).toNatClampNeg (I 84 20)) 97 (I 84 18).toNatClampNeg (I 97 (I 84 20).toNatClampNeg)) 96 (I 84 18).toNatClampNeg ((mc_up (mc_up I 95 (I 84 18).toNatClampNeg (I 84 20)) 97 (I 84 18).toNatClampNeg (I 97 (I 84 20).toNatClampNeg)) 97 x1.toNatClampNeg)) 98 (I 84 18).toNatClampNeg ((I 98 (I 84 20).toNatClampNeg) + (1 : Int32))) 84 18 ((I 84 18) + (1 : Int32))) 84 20 x1), J, rf_w r, sh_w N, n))) ∧
            (¬ (¬ x1 = (I 84 18)) →
            (vp_in (I 84 20) 64 ∧ vp_in (I 84 18) 64 ∧ vp_in (I 84 20) 64 ∧ vp_in (I 84 18) 64 ∧ Q (.inl none) ((mc_up (mc_up (mc_up (mc_up (mc_up (mc_up I 95 (I 84 18).toNatClampNeg (I 84 20)) 97 (I 84 18).toNatClampNeg (I 97 (I 84 20).toNatClampNeg)) 96 (I 84 18).toNatClampNeg ((mc_up (mc_up I 95 (I 84 18).toNatClampNeg (I 84 20)) 97 (I 84 18).toNatClampNeg (I 97 (I 84 20).toNatClampNeg)) 97 (I 84 20).toNatClampNeg)) 98 (I 84 18).toNatClampNeg ((I 98 (I 84 20).toNatClampNeg) + (1 : Int32))) 84 18 ((I 84 18) + (1 : Int32))) 84 20 x1), J, rf_w r, sh_w N, n)))))))) :
    mc_WP (mc_en 80 [.ref 84, .int x1] (I, J, rf_w r, sh_w N, n)) Q := by
  exact (mc_WP.run (mc_adjs _) 3 (And.intro rfl (And.intro (fun c9 => (mc_WP.run (mc_adjs _) 4 (And.intro rfl (h.1 c9)))) (fun c9 => (mc_WP.run (mc_adjs _) 4 (And.intro rfl (And.intro (fun c10 => (mc_WP.run (mc_adjs _) 4 (And.intro rfl ((h.2 c9).1 c10)))) (fun c10 => (mc_WP.run (mc_adjs _) 25 (And.intro ⟨rfl, (show ¬ (95 : Nat) = 0 by decide)⟩ (And.intro rfl (And.intro rfl (And.intro (wl_st rfl ((h.2 c9).2 c10).1 (show 10 ≤ (95 : Nat) by decide)) (And.intro ⟨rfl, (show ¬ (97 : Nat) = 0 by decide)⟩ (And.intro rfl (And.intro ⟨rfl, (show ¬ (97 : Nat) = 0 by decide)⟩ (And.intro rfl (And.intro (wl_ld rfl ((h.2 c9).2 c10).2.1) (And.intro (wl_st rfl ((h.2 c9).2 c10).2.2.1 (show 10 ≤ (97 : Nat) by decide)) (And.intro ⟨rfl, (show ¬ (96 : Nat) = 0 by decide)⟩ (And.intro rfl (And.intro rfl (And.intro (fun c11 => (mc_WP.run (mc_adjs _) 27 (And.intro ⟨rfl, (show ¬ (97 : Nat) = 0 by decide)⟩ (And.intro (wl_ld rfl (((h.2 c9).2 c10).2.2.2.1 c11).1) (And.intro (wl_st rfl (((h.2 c9).2 c10).2.2.2.1 c11).2.1 (show 10 ≤ (96 : Nat) by decide)) (And.intro ⟨rfl, (show ¬ (98 : Nat) = 0 by decide)⟩ (And.intro rfl (And.intro ⟨rfl, (show ¬ (98 : Nat) = 0 by decide)⟩ (And.intro rfl (And.intro (wl_ld rfl (((h.2 c9).2 c10).2.2.2.1 c11).2.2.1) (And.intro (wl_st rfl (((h.2 c9).2 c10).2.2.2.1 c11).2.2.2.1 (show 10 ≤ (98 : Nat) by decide)) (And.intro rfl (And.intro rfl (And.intro rfl (((h.2 c9).2 c10).2.2.2.1 c11).2.2.2.2)))))))))))))) (fun c11 => (mc_WP.run (mc_adjs _) 6 (And.intro ⟨rfl, (show ¬ (97 : Nat) = 0 by decide)⟩ (And.intro rfl (And.intro (wl_ld rfl (((h.2 c9).2 c10).2.2.2.2 c11).1) (mc_WP.run (mc_adjs _) 23 (And.intro (wl_st rfl (((h.2 c9).2 c10).2.2.2.2 c11).2.1 (show 10 ≤ (96 : Nat) by decide)) (And.intro ⟨rfl, (show ¬ (98 : Nat) = 0 by decide)⟩ (And.intro rfl (And.intro ⟨rfl, (show ¬ (98 : Nat) = 0 by decide)⟩ (And.intro rfl (And.intro (wl_ld rfl (((h.2 c9).2 c10).2.2.2.2 c11).2.2.1) (And.intro (wl_st rfl (((h.2 c9).2 c10).2.2.2.2 c11).2.2.2.1 (show 10 ≤ (98 : Nat) by decide)) (And.intro rfl (And.intro rfl (And.intro rfl (((h.2 c9).2 c10).2.2.2.2 c11).2.2.2.2)))))))))))))))))))))))))))))))))))))))
-- 81 put(I)V inl<=6
set_option maxRecDepth 20000 in
theorem bk_81_0 {x1 : Int32}
    (h : vp_in (I 84 10) 800 ∧ Q (.inl none) ((mc_up (mc_up I 91 (I 84 10).toNatClampNeg x1) 84 10 ((I 84 10) + (1 : Int32))), J, rf_w r, sh_w N, n)) :
    mc_WP (mc_en 81 [.ref 84, .int x1] (I, J, rf_w r, sh_w N, n)) Q := by
  exact (mc_WP.run (mc_adjs _) 13 (And.intro ⟨rfl, (show ¬ (91 : Nat) = 0 by decide)⟩ (And.intro rfl (And.intro (wl_st rfl h.1 (show 10 ≤ (91 : Nat) by decide)) (And.intro rfl (And.intro rfl h.2))))))
-- 82 putColours(I)V inl<=0
set_option maxRecDepth 20000 in
theorem bk_82_0 {x1 : Int32}
    (h : mc_WP (82, 2, [.ref 84, .int x1, .int (0 : Int32), .null], [], (I, J, rf_w r, sh_w N, n), (0, 0)) Q) :
    mc_WP (mc_en 82 [.ref 84, .int x1] (I, J, rf_w r, sh_w N, n)) Q := by
  exact (mc_WP.run (mc_adjs _) 2 h)
set_option maxRecDepth 20000 in
theorem bk_82_2 {x1 : Int32} {x2 : Int32} {x3 : Value}
    (h : vp_in (((9 : Int32) * (x1 + (1 : Int32))) + (4 : Int32)) 45 ∧ (((1 : Int32) <<< ((I 85 (((9 : Int32) * (x1 + (1 : Int32))) + (4 : Int32)).toNatClampNeg) &&& 31)) ≤ x2 → (Q (.inl none) (I, J, rf_w r, sh_w N, n))) ∧
        (¬ (((1 : Int32) <<< ((I 85 (((9 : Int32) * (x1 + (1 : Int32))) + (4 : Int32)).toNatClampNeg) &&& 31)) ≤ x2) →
        (vp_in (((16 : Int32) * (x1 + (1 : Int32))) + x2) 80 ∧ ∃ R : mc_Q, mc_WP (mc_en 81 [.ref 84, .int ((I 86 (((16 : Int32) * (x1 + (1 : Int32))) + x2).toNatClampNeg) >>> ((16 : Int32) &&& 31))] (I, J, rf_w r, sh_w N, n)) R ∧ (∀ v t, R (.inl v) t → mc_WP (82, 43, [.ref 84, .int x1, .int x2, .int (I 86 (((16 : Int32) * (x1 + (1 : Int32))) + x2).toNatClampNeg)], v.toList ++ [], t, (0, 0)) Q) ∧ (∀ k t, R (.inr k) t → Q (.inr k) t)))) :
    mc_WP (82, 2, [.ref 84, .int x1, .int x2, x3], [], (I, J, rf_w r, sh_w N, n), (0, 0)) Q := by
  exact (mc_WP.run (mc_adjs _) 14 (And.intro ⟨rfl, (show ¬ (85 : Nat) = 0 by decide)⟩ (And.intro (wl_ld rfl h.1) (And.intro (fun c4 => (mc_WP.run (mc_adjs _) 1 (h.2.1 c4))) (fun c4 => (mc_WP.run (mc_adjs _) 16 (And.intro ⟨rfl, (show ¬ (86 : Nat) = 0 by decide)⟩ (And.intro (wl_ld rfl (h.2.2 c4).1) (And.intro rfl (And.intro (by decide) (And.intro (by decide) (h.2.2 c4).2)))))))))))
set_option maxRecDepth 20000 in
theorem bk_82_43 {x1 : Int32} {x2 : Int32} {x3 : Int32}
    (h : ∃ R : mc_Q, mc_WP (mc_en 81 [.ref 84, .int ((x3 >>> ((8 : Int32) &&& 31)) &&& (255 : Int32))] (I, J, rf_w r, sh_w N, n)) R ∧ (∀ v t, R (.inl v) t → mc_WP (82, 55, [.ref 84, .int x1, .int x2, .int x3], v.toList ++ [], t, (0, 0)) Q) ∧ (∀ k t, R (.inr k) t → Q (.inr k) t)) :
    mc_WP (82, 43, [.ref 84, .int x1, .int x2, .int x3], [], (I, J, rf_w r, sh_w N, n), (0, 0)) Q := by
  exact (mc_WP.run (mc_adjs _) 7 (And.intro rfl (And.intro (by decide) (And.intro (by decide) h))))
set_option maxRecDepth 20000 in
theorem bk_82_55 {x1 : Int32} {x2 : Int32} {x3 : Int32}
    (h : ∃ R : mc_Q, mc_WP (mc_en 81 [.ref 84, .int (x3 &&& (255 : Int32))] (I, J, rf_w r, sh_w N, n)) R ∧ (∀ v t, R (.inl v) t → mc_WP (82, 64, [.ref 84, .int x1, .int x2, .int x3], v.toList ++ [], t, (0, 0)) Q) ∧ (∀ k t, R (.inr k) t → Q (.inr k) t)) :
    mc_WP (82, 55, [.ref 84, .int x1, .int x2, .int x3], [], (I, J, rf_w r, sh_w N, n), (0, 0)) Q := by
  exact (mc_WP.run (mc_adjs _) 5 (And.intro rfl (And.intro (by decide) (And.intro (by decide) h))))
set_option maxRecDepth 20000 in
theorem bk_82_64 {x1 : Int32} {x2 : Int32} {x3 : Int32}
    (h : mc_WP (82, 2, [.ref 84, .int x1, .int (x2 + (1 : Int32)), .int x3], [], (I, J, rf_w r, sh_w N, n), (0, 0)) Q) :
    mc_WP (82, 64, [.ref 84, .int x1, .int x2, .int x3], [], (I, J, rf_w r, sh_w N, n), (0, 0)) Q := by
  exact (mc_WP.run (mc_adjs _) 2 h)
-- 83 putData(I)V inl<=6
set_option maxRecDepth 20000 in
theorem bk_83_0 {x1 : Int32}
    (h : (¬ (I 84 23) = (20 : Int32) →
        ((¬ (I 84 23) = 0 →
          (vp_in (I 84 10) 800 ∧ vp_in (I 84 21) 800 ∧ Q (.inl none) ((mc_up (mc_up (mc_up (mc_up I 91 (I 84 10).toNatClampNeg x1) 84 10 ((I 84 10) + (1 : Int32))) 84 23 ((I 84 23) + (1 : Int32))) 91 (I 84 21).toNatClampNeg ((I 84 23) + (1 : Int32))), J, rf_w r, sh_w N, n))) ∧
          (¬ (¬ (I 84 23) = 0) →
          (vp_in (I 84 10) 800 ∧ vp_in ((I 84 10) + (1 : Int32)) 800 ∧ vp_in (I 84 10) 800 ∧ Q (.inl none) ((mc_up (mc_up (mc_up (mc_up (mc_up (mc_up (mc_up I 84 21 (I 84 10)) 91 (I 84 10).toNatClampNeg (0 : Int32)) 84 10 ((I 84 10) + (1 : Int32))) 91 ((I 84 10) + (1 : Int32)).toNatClampNeg x1) 84 10 (((I 84 10) + (1 : Int32)) + (1 : Int32))) 84 23 ((I 84 23) + (1 : Int32))) 91 (I 84 10).toNatClampNeg ((I 84 23) + (1 : Int32))), J, rf_w r, sh_w N, n))))) ∧
        (¬ (¬ (I 84 23) = (20 : Int32)) →
        (vp_in (I 84 10) 800 ∧ vp_in ((I 84 10) + (1 : Int32)) 800 ∧ vp_in (I 84 10) 800 ∧ Q (.inl none) ((mc_up (mc_up (mc_up (mc_up (mc_up (mc_up (mc_up (mc_up I 84 23 (0 : Int32)) 84 21 (I 84 10)) 91 (I 84 10).toNatClampNeg (0 : Int32)) 84 10 ((I 84 10) + (1 : Int32))) 91 ((I 84 10) + (1 : Int32)).toNatClampNeg x1) 84 10 (((I 84 10) + (1 : Int32)) + (1 : Int32))) 84 23 ((0 : Int32) + (1 : Int32))) 91 (I 84 10).toNatClampNeg ((0 : Int32) + (1 : Int32))), J, rf_w r, sh_w N, n)))) :
    mc_WP (mc_en 83 [.ref 84, .int x1] (I, J, rf_w r, sh_w N, n)) Q := by
  exact (mc_WP.run (mc_adjs _) 4 (And.intro rfl (And.intro (fun c17 => (mc_WP.run (mc_adjs _) 3 (And.intro rfl (And.intro (fun c18 => (mc_WP.run (mc_adjs _) 3 (And.intro rfl (And.intro (by decide) (And.intro (by decide) (mc_inl (mc_WP.run (mc_adjs _) 13 (And.intro ⟨rfl, (show ¬ (91 : Nat) = 0 by decide)⟩ (And.intro rfl (And.intro (wl_st rfl ((h.1 c17).1 c18).1 (show 10 ≤ (91 : Nat) by decide)) (And.intro rfl (And.intro rfl (mc_WP.run (mc_adjs _) 14 (And.intro rfl (And.intro rfl (And.intro ⟨rfl, (show ¬ (91 : Nat) = 0 by decide)⟩ (And.intro rfl (And.intro rfl (And.intro (wl_st rfl ((h.1 c17).1 c18).2.1 (show 10 ≤ (91 : Nat) by decide)) ((h.1 c17).1 c18).2.2))))))))))))))))))) (fun c18 => (mc_WP.run (mc_adjs _) 7 (And.intro rfl (And.intro rfl (And.intro rfl (And.intro (by decide) (And.intro (by decide) (mc_inl (mc_WP.run (mc_adjs _) 13 (And.intro ⟨rfl, (show ¬ (91 : Nat) = 0 by decide)⟩ (And.intro rfl (And.intro (wl_st rfl ((h.1 c17).2 c18).1 (show 10 ≤ (91 : Nat) by decide)) (And.intro rfl (And.intro rfl (mc_WP.run (mc_adjs _) 3 (And.intro rfl (And.intro (by decide) (And.intro (by decide) (mc_inl (mc_WP.run (mc_adjs _) 13 (And.intro ⟨rfl, (show ¬ (91 : Nat) = 0 by decide)⟩ (And.intro rfl (And.intro (wl_st rfl ((h.1 c17).2 c18).2.1 (show 10 ≤ (91 : Nat) by decide)) (And.intro rfl (And.intro rfl (mc_WP.run (mc_adjs _) 14 (And.intro rfl (And.intro rfl (And.intro ⟨rfl, (show ¬ (91 : Nat) = 0 by decide)⟩ (And.intro rfl (And.intro rfl (And.intro (wl_st rfl ((h.1 c17).2 c18).2.2.1 (show 10 ≤ (91 : Nat) by decide)) ((h.1 c17).2 c18).2.2.2)))))))))))))))))))))))))))))))))))) (fun c17 => (mc_WP.run (mc_adjs _) 6 (And.intro rfl (And.intro rfl (And.intro (fun c => absurd c (show ¬ (¬ (0 : Int32) = 0) by decide)) (fun _ => (mc_WP.run (mc_adjs _) 7 (And.intro rfl (And.intro rfl (And.intro rfl (And.intro (by decide) (And.intro (by decide) (mc_inl (mc_WP.run (mc_adjs _) 13 (And.intro ⟨rfl, (show ¬ (91 : Nat) = 0 by decide)⟩ (And.intro rfl (And.intro (wl_st rfl (h.2 c17).1 (show 10 ≤ (91 : Nat) by decide)) (And.intro rfl (And.intro rfl (mc_WP.run (mc_adjs _) 3 (And.intro rfl (And.intro (by decide) (And.intro (by decide) (mc_inl (mc_WP.run (mc_adjs _) 13 (And.intro ⟨rfl, (show ¬ (91 : Nat) = 0 by decide)⟩ (And.intro rfl (And.intro (wl_st rfl (h.2 c17).2.1 (show 10 ≤ (91 : Nat) by decide)) (And.intro rfl (And.intro rfl (mc_WP.run (mc_adjs _) 14 (And.intro rfl (And.intro rfl (And.intro ⟨rfl, (show ¬ (91 : Nat) = 0 by decide)⟩ (And.intro rfl (And.intro rfl (And.intro (wl_st rfl (h.2 c17).2.2.1 (show 10 ≤ (91 : Nat) by decide)) (h.2 c17).2.2.2))))))))))))))))))))))))))))))))))))))))
-- 84 putCode(I)V inl<=6
set_option maxRecDepth 20000 in
theorem bk_84_0 {x1 : Int32}
    (h : ∃ R : mc_Q, mc_WP (mc_en 79 [.ref 84] ((mc_up I 84 24 ((I 84 24) ||| (x1 <<< ((I 84 25) &&& 31)))), J, rf_w r, sh_w N, n)) R ∧ (∀ v t, R (.inl v) t → mc_WP (84, 24, [.ref 84, .int x1], v.toList ++ [.int (I 84 25), .ref 84], t, (0, 0)) Q) ∧ (∀ k t, R (.inr k) t → Q (.inr k) t)) :
    mc_WP (mc_en 84 [.ref 84, .int x1] (I, J, rf_w r, sh_w N, n)) Q := by
  exact (mc_WP.run (mc_adjs _) 14 (And.intro rfl (And.intro rfl (And.intro rfl (And.intro rfl (And.intro rfl (And.intro (by decide) (And.intro (by decide) h))))))))
set_option maxRecDepth 20000 in
theorem bk_84_24 {x1 : Int32} {y1 : Int32} {y2 : Int32}
    (h : mc_WP (84, 28, [.ref 84, .int x1], [], ((mc_up I 84 25 (y1 + y2)), J, rf_w r, sh_w N, n), (0, 0)) Q) :
    mc_WP (84, 24, [.ref 84, .int x1], [.int y2, .int y1, .ref 84], (I, J, rf_w r, sh_w N, n), (0, 0)) Q := by
  exact (mc_WP.run (mc_adjs _) 2 (And.intro rfl h))
set_option maxRecDepth 20000 in
theorem bk_84_28 {x1 : Int32}
    (h : ((I 84 25) ≤ (7 : Int32) → (Q (.inl none) (I, J, rf_w r, sh_w N, n))) ∧
        (¬ ((I 84 25) ≤ (7 : Int32)) →
        ((¬ (I 84 23) = (20 : Int32) →
          ((¬ (I 84 23) = 0 →
            (vp_in (I 84 10) 800 ∧ vp_in (I 84 21) 800 ∧ mc_WP (84, 28, [.ref 84, .int x1], [], ((mc_up (mc_up (mc_up (mc_up (mc_up (mc_up I 91 (I 84 10).toNatClampNeg ((I 84 24) &&& (255 : Int32))) 84 10 ((I 84 10) + (1 : Int32))) 84 23 ((I 84 23) + (1 : Int32))) 91 (I 84 21).toNatClampNeg ((I 84 23) + (1 : Int32))) 84 24 ((I 84 24) >>> ((8 : Int32) &&& 31))) 84 25 ((I 84 25) - (8 : Int32))), J, rf_w r, sh_w N, n), (0, 0)) Q)) ∧
            (¬ (¬ (I 84 23) = 0) →
            (vp_in (I 84 10) 800 ∧ vp_in ((I 84 10) + (1 : Int32)) 800 ∧ vp_in (I 84 10) 800 ∧ mc_WP (84, 28, [.ref 84, .int x1], [], ((mc_up (mc_up (mc_up (mc_up (mc_up (mc_up (mc_up (mc_up (mc_up I 84 21 (I 84 10)) 91 (I 84 10).toNatClampNeg (0 : Int32)) 84 10 ((I 84 10) + (1 : Int32))) 91 ((I 84 10) + (1 : Int32)).toNatClampNeg ((I 84 24) &&& (255 : Int32))) 84 10 (((I 84 10) + (1 : Int32)) + (1 : Int32))) 84 23 ((I 84 23) + (1 : Int32))) 91 (I 84 10).toNatClampNeg ((I 84 23) + (1 : Int32))) 84 24 ((I 84 24) >>> ((8 : Int32) &&& 31))) 84 25 ((I 84 25) - (8 : Int32))), J, rf_w r, sh_w N, n), (0, 0)) Q)))) ∧
          (¬ (¬ (I 84 23) = (20 : Int32)) →
          (vp_in (I 84 10) 800 ∧ vp_in ((I 84 10) + (1 : Int32)) 800 ∧ vp_in (I 84 10) 800 ∧ mc_WP (84, 28, [.ref 84, .int x1], [], ((mc_up (mc_up (mc_up (mc_up (mc_up (mc_up (mc_up (mc_up (mc_up (mc_up I 84 23 (0 : Int32)) 84 21 (I 84 10)) 91 (I 84 10).toNatClampNeg (0 : Int32)) 84 10 ((I 84 10) + (1 : Int32))) 91 ((I 84 10) + (1 : Int32)).toNatClampNeg ((I 84 24) &&& (255 : Int32))) 84 10 (((I 84 10) + (1 : Int32)) + (1 : Int32))) 84 23 ((0 : Int32) + (1 : Int32))) 91 (I 84 10).toNatClampNeg ((0 : Int32) + (1 : Int32))) 84 24 ((I 84 24) >>> ((8 : Int32) &&& 31))) 84 25 ((I 84 25) - (8 : Int32))), J, rf_w r, sh_w N, n), (0, 0)) Q))))) :
    mc_WP (84, 28, [.ref 84, .int x1], [], (I, J, rf_w r, sh_w N, n), (0, 0)) Q := by
  exact (mc_WP.run (mc_adjs _) 4 (And.intro rfl (And.intro (fun c23 => (mc_WP.run (mc_adjs _) 1 (h.1 c23))) (fun c23 => (mc_WP.run (mc_adjs _) 6 (And.intro rfl (And.intro rfl (And.intro (by decide) (And.intro (by decide) (mc_inl (mc_WP.run (mc_adjs _) 4 (And.intro rfl (And.intro (fun c24 => (mc_WP.run (mc_adjs _) 3 (And.intro rfl (And.intro (fun c25 => (mc_WP.run (mc_adjs _) 3 (And.intro rfl (And.intro (by decide) (And.intro (by decide) (mc_inl (mc_WP.run (mc_adjs _) 13 (And.intro ⟨rfl, (show ¬ (91 : Nat) = 0 by decide)⟩ (And.intro rfl (And.intro (wl_st rfl (((h.2 c23).1 c24).1 c25).1 (show 10 ≤ (91 : Nat) by decide)) (And.intro rfl (And.intro rfl (mc_WP.run (mc_adjs _) 14 (And.intro rfl (And.intro rfl (And.intro ⟨rfl, (show ¬ (91 : Nat) = 0 by decide)⟩ (And.intro rfl (And.intro rfl (And.intro (wl_st rfl (((h.2 c23).1 c24).1 c25).2.1 (show 10 ≤ (91 : Nat) by decide)) (mc_WP.run (mc_adjs _) 13 (And.intro rfl (And.intro rfl (And.intro rfl (And.intro rfl (((h.2 c23).1 c24).1 c25).2.2)))))))))))))))))))))))) (fun c25 => (mc_WP.run (mc_adjs _) 7 (And.intro rfl (And.intro rfl (And.intro rfl (And.intro (by decide) (And.intro (by decide) (mc_inl (mc_WP.run (mc_adjs _) 13 (And.intro ⟨rfl, (show ¬ (91 : Nat) = 0 by decide)⟩ (And.intro rfl (And.intro (wl_st rfl (((h.2 c23).1 c24).2 c25).1 (show 10 ≤ (91 : Nat) by decide)) (And.intro rfl (And.intro rfl (mc_WP.run (mc_adjs _) 3 (And.intro rfl (And.intro (by decide) (And.intro (by decide) (mc_inl (mc_WP.run (mc_adjs _) 13 (And.intro ⟨rfl, (show ¬ (91 : Nat) = 0 by decide)⟩ (And.intro rfl (And.intro (wl_st rfl (((h.2 c23).1 c24).2 c25).2.1 (show 10 ≤ (91 : Nat) by decide)) (And.intro rfl (And.intro rfl (mc_WP.run (mc_adjs _) 14 (And.intro rfl (And.intro rfl (And.intro ⟨rfl, (show ¬ (91 : Nat) = 0 by decide)⟩ (And.intro rfl (And.intro rfl (And.intro (wl_st rfl (((h.2 c23).1 c24).2 c25).2.2.1 (show 10 ≤ (91 : Nat) by decide)) (mc_WP.run (mc_adjs _) 13 (And.intro rfl (And.intro rfl (And.intro rfl (And.intro rfl (((h.2 c23).1 c24).2 c25).2.2.2))))))))))))))))))))))))))))))))))))))))) (fun c24 => (mc_WP.run (mc_adjs _) 6 (And.intro rfl (And.intro rfl (And.intro (fun c => absurd c (show ¬ (¬ (0 : Int32) = 0) by decide)) (fun _ => (mc_WP.run (mc_adjs _) 7 (And.intro rfl (And.intro rfl (And.intro rfl (And.intro (by decide) (And.intro (by decide) (mc_inl (mc_WP.run (mc_adjs _) 13 (And.intro ⟨rfl, (show ¬ (91 : Nat) = 0 by decide)⟩ (And.intro rfl (And.intro (wl_st rfl ((h.2 c23).2 c24).1 (show 10 ≤ (91 : Nat) by decide)) (And.intro rfl (And.intro rfl (mc_WP.run (mc_adjs _) 3 (And.intro rfl (And.intro (by decide) (And.intro (by decide) (mc_inl (mc_WP.run (mc_adjs _) 13 (And.intro ⟨rfl, (show ¬ (91 : Nat) = 0 by decide)⟩ (And.intro rfl (And.intro (wl_st rfl ((h.2 c23).2 c24).2.1 (show 10 ≤ (91 : Nat) by decide)) (And.intro rfl (And.intro rfl (mc_WP.run (mc_adjs _) 14 (And.intro rfl (And.intro rfl (And.intro ⟨rfl, (show ¬ (91 : Nat) = 0 by decide)⟩ (And.intro rfl (And.intro rfl (And.intro (wl_st rfl ((h.2 c23).2 c24).2.2.1 (show 10 ≤ (91 : Nat) by decide)) (mc_WP.run (mc_adjs _) 13 (And.intro rfl (And.intro rfl (And.intro rfl (And.intro rfl ((h.2 c23).2 c24).2.2.2)))))))))))))))))))))))))))))))))))))))))))))))))))))))
-- 85 begins(III)Z inl<=6
set_option maxRecDepth 20000 in
theorem bk_85_0 {x1 : Int32} {x2 : Int32} {x3 : Int32}
    (h : vp_in x1 64 ∧ (x3 < (x2 + (I 98 x1.toNatClampNeg)) →
        (vp_in x1 64 ∧ mc_WP (85, 32, [.ref 84, .int x1, .int x2, .int x3, .int x1, .int (0 : Int32), .int ((I 98 x1.toNatClampNeg) - (1 : Int32))], [], (I, J, rf_w r, sh_w N, n), (0, 0)) Q)) ∧
        (¬ (x3 < (x2 + (I 98 x1.toNatClampNeg))) →
        (vp_in x1 64 ∧ mc_WP (85, 32, [.ref 84, .int x1, .int x2, .int x3, .int x1, .int (1 : Int32), .int ((I 98 x1.toNatClampNeg) - (1 : Int32))], [], (I, J, rf_w r, sh_w N, n), (0, 0)) Q))) :
    mc_WP (mc_en 85 [.ref 84, .int x1, .int x2, .int x3] (I, J, rf_w r, sh_w N, n)) Q := by
  exact (mc_WP.run (mc_adjs _) 10 (And.intro ⟨rfl, (show ¬ (98 : Nat) = 0 by decide)⟩ (And.intro (wl_ld rfl h.1) (And.intro (fun c5 => (mc_WP.run (mc_adjs _) 9 (And.intro ⟨rfl, (show ¬ (98 : Nat) = 0 by decide)⟩ (And.intro (wl_ld rfl (h.2.1 c5).1) (h.2.1 c5).2)))) (fun c5 => (mc_WP.run (mc_adjs _) 2 (mc_WP.run (mc_adjs _) 8 (And.intro ⟨rfl, (show ¬ (98 : Nat) = 0 by decide)⟩ (And.intro (wl_ld rfl (h.2.2 c5).1) (h.2.2 c5).2)))))))))
set_option maxRecDepth 20000 in
theorem bk_85_32 {x1 : Int32} {x2 : Int32} {x3 : Int32} {x4 : Int32} {x5 : Int32} {x6 : Int32}
    (h : (x6 < 0 →
        ((x5 = 0 ∨ x5 = 1) ∧ Q (.inl (some (.int x5))) (I, J, rf_w r, sh_w N, n))) ∧
        (¬ (x6 < 0) →
        ((x5 = 0 →
          ((x5 = 0 ∨ x5 = 1) ∧ Q (.inl (some (.int x5))) (I, J, rf_w r, sh_w N, n))) ∧
          (¬ (x5 = 0) →
          (vp_in (x2 + x6) 64 ∧ vp_in x4 64 ∧ (¬ (I 99 (x2 + x6).toNatClampNeg) = (I 96 x4.toNatClampNeg) →
            (vp_in x4 64 ∧ mc_WP (85, 32, [.ref 84, .int x1, .int x2, .int x3, .int (I 95 x4.toNatClampNeg), .int (0 : Int32), .int (x6 + (-1 : Int32))], [], (I, J, rf_w r, sh_w N, n), (0, 0)) Q)) ∧
            (¬ (¬ (I 99 (x2 + x6).toNatClampNeg) = (I 96 x4.toNatClampNeg)) →
            (vp_in x4 64 ∧ mc_WP (85, 32, [.ref 84, .int x1, .int x2, .int x3, .int (I 95 x4.toNatClampNeg), .int (1 : Int32), .int (x6 + (-1 : Int32))], [], (I, J, rf_w r, sh_w N, n), (0, 0)) Q))))))) :
    mc_WP (85, 32, [.ref 84, .int x1, .int x2, .int x3, .int x4, .int x5, .int x6], [], (I, J, rf_w r, sh_w N, n), (0, 0)) Q := by
  exact (mc_WP.run (mc_adjs _) 2 (And.intro (fun c9 => (mc_WP.run (mc_adjs _) 2 (h.1 c9))) (fun c9 => (mc_WP.run (mc_adjs _) 2 (And.intro (fun c10 => (mc_WP.run (mc_adjs _) 2 ((h.2 c9).1 c10))) (fun c10 => (mc_WP.run (mc_adjs _) 11 (And.intro ⟨rfl, (show ¬ (99 : Nat) = 0 by decide)⟩ (And.intro (wl_ld rfl ((h.2 c9).2 c10).1) (And.intro ⟨rfl, (show ¬ (96 : Nat) = 0 by decide)⟩ (And.intro (wl_ld rfl ((h.2 c9).2 c10).2.1) (And.intro (fun c11 => (mc_WP.run (mc_adjs _) 9 (And.intro ⟨rfl, (show ¬ (95 : Nat) = 0 by decide)⟩ (And.intro (wl_ld rfl (((h.2 c9).2 c10).2.2.1 c11).1) (((h.2 c9).2 c10).2.2.1 c11).2)))) (fun c11 => (mc_WP.run (mc_adjs _) 2 (mc_WP.run (mc_adjs _) 8 (And.intro ⟨rfl, (show ¬ (95 : Nat) = 0 by decide)⟩ (And.intro (wl_ld rfl (((h.2 c9).2 c10).2.2.2 c11).1) (((h.2 c9).2 c10).2.2.2 c11).2)))))))))))))))))
-- 86 repeats(II)Z inl<=6
set_option maxRecDepth 20000 in
theorem bk_86_0 {x1 : Int32} {x2 : Int32}
    (h : ((I 84 20) < 0 → (Q (.inl (some (.int (0 : Int32)))) (I, J, rf_w r, sh_w N, n))) ∧
        (¬ ((I 84 20) < 0) →
        (((64 : Int32) ≤ (I 84 18) → (Q (.inl (some (.int (0 : Int32)))) (I, J, rf_w r, sh_w N, n))) ∧
          (¬ ((64 : Int32) ≤ (I 84 18)) →
          (vp_in (I 84 20) 64 ∧ (x2 ≤ (x1 + (I 98 (I 84 20).toNatClampNeg)) → (Q (.inl (some (.int (0 : Int32)))) (I, J, rf_w r, sh_w N, n))) ∧
            (¬ (x2 ≤ (x1 + (I 98 (I 84 20).toNatClampNeg))) →
            (∃ R : mc_Q, mc_WP (mc_en 85 [.ref 84, .int (I 84 20), .int x1, .int x2] (I, J, rf_w r, sh_w N, n)) R ∧ (∀ v t, R (.inl v) t → mc_WP (86, 41, [.ref 84, .int x1, .int x2], v.toList ++ [], t, (0, 0)) Q) ∧ (∀ k t, R (.inr k) t → Q (.inr k) t)))))))) :
    mc_WP (mc_en 86 [.ref 84, .int x1, .int x2] (I, J, rf_w r, sh_w N, n)) Q := by
  exact (mc_WP.run (mc_adjs _) 3 (And.intro rfl (And.intro (fun c8 => (mc_WP.run (mc_adjs _) 2 (And.intro (by decide) (h.1 c8)))) (fun c8 => (mc_WP.run (mc_adjs _) 4 (And.intro rfl (And.intro (fun c9 => (mc_WP.run (mc_adjs _) 2 (And.intro (by decide) ((h.2 c8).1 c9)))) (fun c9 => (mc_WP.run (mc_adjs _) 9 (And.intro ⟨rfl, (show ¬ (98 : Nat) = 0 by decide)⟩ (And.intro rfl (And.intro (wl_ld rfl ((h.2 c8).2 c9).1) (And.intro (fun c10 => (mc_WP.run (mc_adjs _) 2 (And.intro (by decide) (((h.2 c8).2 c9).2.1 c10)))) (fun c10 => (mc_WP.run (mc_adjs _) 6 (And.intro rfl (And.intro rfl (And.intro (by decide) (And.intro (by decide) (((h.2 c8).2 c9).2.2 c10))))))))))))))))))))
set_option maxRecDepth 20000 in
theorem bk_86_41 {x1 : Int32} {x2 : Int32} {y0 : Int32}
    (h : (y0 = 0 → (Q (.inl (some (.int (0 : Int32)))) (I, J, rf_w r, sh_w N, n))) ∧
        (¬ (y0 = 0) →
        (vp_in (I 84 20) 64 ∧ vp_in (x1 + (I 98 (I 84 20).toNatClampNeg)) 64 ∧ vp_in (I 84 20) 64 ∧ (¬ (I 99 (x1 + (I 98 (I 84 20).toNatClampNeg)).toNatClampNeg) = (I 97 (I 84 20).toNatClampNeg) → (Q (.inl (some (.int (0 : Int32)))) (I, J, rf_w r, sh_w N, n))) ∧
          (¬ (¬ (I 99 (x1 + (I 98 (I 84 20).toNatClampNeg)).toNatClampNeg) = (I 97 (I 84 20).toNatClampNeg)) → (Q (.inl (some (.int (1 : Int32)))) (I, J, rf_w r, sh_w N, n)))))) :
    mc_WP (86, 41, [.ref 84, .int x1, .int x2], [.int y0], (I, J, rf_w r, sh_w N, n), (0, 0)) Q := by
  exact (mc_WP.run (mc_adjs _) 1 (And.intro (fun c7 => (mc_WP.run (mc_adjs _) 2 (And.intro (by decide) (h.1 c7)))) (fun c7 => (mc_WP.run (mc_adjs _) 16 (And.intro ⟨rfl, (show ¬ (99 : Nat) = 0 by decide)⟩ (And.intro ⟨rfl, (show ¬ (98 : Nat) = 0 by decide)⟩ (And.intro rfl (And.intro (wl_ld rfl (h.2 c7).1) (And.intro (wl_ld rfl (h.2 c7).2.1) (And.intro ⟨rfl, (show ¬ (97 : Nat) = 0 by decide)⟩ (And.intro rfl (And.intro (wl_ld rfl (h.2 c7).2.2.1) (And.intro (fun c8 => (mc_WP.run (mc_adjs _) 2 (And.intro (by decide) ((h.2 c7).2.2.2.1 c8)))) (fun c8 => (mc_WP.run (mc_adjs _) 2 (mc_WP.run (mc_adjs _) 1 (And.intro (by decide) ((h.2 c7).2.2.2.2 c8))))))))))))))))))
-- 87 longest(II)I inl<=6
set_option maxRecDepth 20000 in
theorem bk_87_0 {x1 : Int32} {x2 : Int32}
    (h : vp_in x1 64 ∧ mc_WP (87, 15, [.ref 84, .int x1, .int x2, .int (I 99 x1.toNatClampNeg), .int ((I 84 19) + (2 : Int32))], [], (I, J, rf_w r, sh_w N, n), (0, 0)) Q) :
    mc_WP (mc_en 87 [.ref 84, .int x1, .int x2] (I, J, rf_w r, sh_w N, n)) Q := by
  exact (mc_WP.run (mc_adjs _) 10 (And.intro ⟨rfl, (show ¬ (99 : Nat) = 0 by decide)⟩ (And.intro (wl_ld rfl h.1) (And.intro rfl h.2))))
set_option maxRecDepth 20000 in
theorem bk_87_15 {x1 : Int32} {x2 : Int32} {x3 : Int32} {x4 : Int32}
    (h : ((I 84 18) ≤ x4 →
        (∃ R : mc_Q, mc_WP (mc_en 86 [.ref 84, .int x1, .int x2] (I, J, rf_w r, sh_w N, n)) R ∧ (∀ v t, R (.inl v) t → mc_WP (87, 70, [.ref 84, .int x1, .int x2, .int x3, .int x4], v.toList ++ [], t, (0, 0)) Q) ∧ (∀ k t, R (.inr k) t → Q (.inr k) t))) ∧
        (¬ ((I 84 18) ≤ x4) →
        (vp_in x4 64 ∧ vp_in x3 64 ∧ ((I 98 x4.toNatClampNeg) ≤ (I 98 x3.toNatClampNeg) →
          (mc_WP (87, 15, [.ref 84, .int x1, .int x2, .int x3, .int (x4 + (1 : Int32))], [], (I, J, rf_w r, sh_w N, n), (0, 0)) Q)) ∧
          (¬ ((I 98 x4.toNatClampNeg) ≤ (I 98 x3.toNatClampNeg)) →
          (∃ R : mc_Q, mc_WP (mc_en 85 [.ref 84, .int x4, .int x1, .int x2] (I, J, rf_w r, sh_w N, n)) R ∧ (∀ v t, R (.inl v) t → mc_WP (87, 48, [.ref 84, .int x1, .int x2, .int x3, .int x4], v.toList ++ [], t, (0, 0)) Q) ∧ (∀ k t, R (.inr k) t → Q (.inr k) t)))))) :
    mc_WP (87, 15, [.ref 84, .int x1, .int x2, .int x3, .int x4], [], (I, J, rf_w r, sh_w N, n), (0, 0)) Q := by
  exact (mc_WP.run (mc_adjs _) 4 (And.intro rfl (And.intro (fun c6 => (mc_WP.run (mc_adjs _) 4 (And.intro rfl (And.intro (by decide) (And.intro (by decide) (h.1 c6)))))) (fun c6 => (mc_WP.run (mc_adjs _) 9 (And.intro ⟨rfl, (show ¬ (98 : Nat) = 0 by decide)⟩ (And.intro (wl_ld rfl (h.2 c6).1) (And.intro ⟨rfl, (show ¬ (98 : Nat) = 0 by decide)⟩ (And.intro (wl_ld rfl (h.2 c6).2.1) (And.intro (fun c7 => (mc_WP.run (mc_adjs _) 4 ((h.2 c6).2.2.1 c7))) (fun c7 => (mc_WP.run (mc_adjs _) 5 (And.intro rfl (And.intro (by decide) (And.intro (by decide) ((h.2 c6).2.2.2 c7))))))))))))))))
set_option maxRecDepth 20000 in
theorem bk_87_48 {x1 : Int32} {x2 : Int32} {x3 : Int32} {x4 : Int32} {y0 : Int32}
    (h : (y0 = 0 →
        (mc_WP (87, 15, [.ref 84, .int x1, .int x2, .int x3, .int (x4 + (1 : Int32))], [], (I, J, rf_w r, sh_w N, n), (0, 0)) Q)) ∧
        (¬ (y0 = 0) →
        (mc_WP (87, 15, [.ref 84, .int x1, .int x2, .int x4, .int (x4 + (1 : Int32))], [], (I, J, rf_w r, sh_w N, n), (0, 0)) Q))) :
    mc_WP (87, 48, [.ref 84, .int x1, .int x2, .int x3, .int x4], [.int y0], (I, J, rf_w r, sh_w N, n), (0, 0)) Q := by
  exact (mc_WP.run (mc_adjs _) 1 (And.intro (fun c5 => (mc_WP.run (mc_adjs _) 4 (h.1 c5))) (fun c5 => (mc_WP.run (mc_adjs _) 2 (mc_WP.run (mc_adjs _) 3 (h.2 c5))))))
set_option maxRecDepth 20000 in
theorem bk_87_70 {x1 : Int32} {x2 : Int32} {x3 : Int32} {x4 : Int32} {y0 : Int32}
    (h : (y0 = 0 → (Q (.inl (some (.int x3))) (I, J, rf_w r, sh_w N, n))) ∧
        (¬ (y0 = 0) →
        (vp_in (I 84 20) 64 ∧ vp_in x3 64 ∧ (((I 98 (I 84 20).toNatClampNeg) + (1 : Int32)) ≤ (I 98 x3.toNatClampNeg) → (Q (.inl (some (.int x3))) (I, J, rf_w r, sh_w N, n))) ∧
          (¬ (((I 98 (I 84 20).toNatClampNeg) + (1 : Int32)) ≤ (I 98 x3.toNatClampNeg)) → (Q (.inl (some (.int (I 84 18)))) (I, J, rf_w r, sh_w N, n)))))) :
    mc_WP (87, 70, [.ref 84, .int x1, .int x2, .int x3, .int x4], [.int y0], (I, J, rf_w r, sh_w N, n), (0, 0)) Q := by
  exact (mc_WP.run (mc_adjs _) 1 (And.intro (fun c11 => (mc_WP.run (mc_adjs _) 4 (And.intro (fun _ => (mc_WP.run (mc_adjs _) 2 (h.1 c11))) (fun c => absurd (show (0 : Int32) = 0 by decide) c)))) (fun c11 => (mc_WP.run (mc_adjs _) 12 (And.intro ⟨rfl, (show ¬ (98 : Nat) = 0 by decide)⟩ (And.intro rfl (And.intro (wl_ld rfl (h.2 c11).1) (And.intro ⟨rfl, (show ¬ (98 : Nat) = 0 by decide)⟩ (And.intro (wl_ld rfl (h.2 c11).2.1) (And.intro (fun c12 => (mc_WP.run (mc_adjs _) 4 (And.intro (fun _ => (mc_WP.run (mc_adjs _) 2 ((h.2 c11).2.2.1 c12))) (fun c => absurd (show (0 : Int32) = 0 by decide) c)))) (fun c12 => (mc_WP.run (mc_adjs _) 2 (mc_WP.run (mc_adjs _) 3 (And.intro (fun c => absurd c (show ¬ ((1 : Int32) = 0) by decide)) (fun _ => (mc_WP.run (mc_adjs _) 3 (And.intro rfl (mc_WP.run (mc_adjs _) 1 ((h.2 c11).2.2.2 c12)))))))))))))))))))
-- 88 putPixels(I)V inl<=1
set_option maxRecDepth 20000 in
theorem bk_88_0 {x1 : Int32}
    (h : ∃ R : mc_Q, mc_WP (mc_en 84 [.ref 84, .int (I 84 19)] ((mc_up (mc_up (mc_up I 84 24 (0 : Int32)) 84 25 (0 : Int32)) 84 23 (0 : Int32)), J, rf_w r, sh_w N, n)) R ∧ (∀ v t, R (.inl v) t → mc_WP (88, 23, [.ref 84, .int x1, .null, .null, .null], v.toList ++ [], t, (0, 0)) Q) ∧ (∀ k t, R (.inr k) t → Q (.inr k) t)) :
    mc_WP (mc_en 88 [.ref 84, .int x1] (I, J, rf_w r, sh_w N, n)) Q := by
  exact (mc_WP.run (mc_adjs _) 13 (And.intro rfl (And.intro rfl (And.intro rfl (And.intro rfl (And.intro rfl (And.intro (by decide) (And.intro (by decide) h))))))))
set_option maxRecDepth 20000 in
theorem bk_88_23 {x1 : Int32}
    (h : mc_WP (88, 25, [.ref 84, .int x1, .int (0 : Int32), .null, .null], [], (I, J, rf_w r, sh_w N, n), (0, 0)) Q) :
    mc_WP (88, 23, [.ref 84, .int x1, .null, .null, .null], [], (I, J, rf_w r, sh_w N, n), (0, 0)) Q := by
  exact (mc_WP.run (mc_adjs _) 2 h)
set_option maxRecDepth 20000 in
theorem bk_88_25 {x1 : Int32} {x2 : Int32} {x3 : Value} {x4 : Value}
    (h : (x1 ≤ x2 →
        (∃ R : mc_Q, mc_WP (mc_en 84 [.ref 84, .int ((I 84 19) + (1 : Int32))] (I, J, rf_w r, sh_w N, n)) R ∧ (∀ v t, R (.inl v) t → mc_WP (88, 114, [.ref 84, .int x1, .int x2, x3, x4], v.toList ++ [], t, (0, 0)) Q) ∧ (∀ k t, R (.inr k) t → Q (.inr k) t))) ∧
        (¬ (x1 ≤ x2) →
        (∃ R : mc_Q, mc_WP (mc_en 87 [.ref 84, .int x2, .int x1] (I, J, rf_w r, sh_w N, n)) R ∧ (∀ v t, R (.inl v) t → mc_WP (88, 36, [.ref 84, .int x1, .int x2, x3, x4], v.toList ++ [], t, (0, 0)) Q) ∧ (∀ k t, R (.inr k) t → Q (.inr k) t)))) :
    mc_WP (88, 25, [.ref 84, .int x1, .int x2, x3, x4], [], (I, J, rf_w r, sh_w N, n), (0, 0)) Q := by
  exact (mc_WP.run (mc_adjs _) 3 (And.intro (fun c4 => (mc_WP.run (mc_adjs _) 6 (And.intro rfl (And.intro rfl (And.intro (by decide) (And.intro (by decide) (h.1 c4))))))) (fun c4 => (mc_WP.run (mc_adjs _) 4 (And.intro rfl (And.intro (by decide) (And.intro (by decide) (h.2 c4))))))))
set_option maxRecDepth 20000 in
theorem bk_88_36 {x1 : Int32} {x2 : Int32} {x3 : Value} {x4 : Value} {y0 : Int32}
    (h : ((I 84 20) < 0 →
        (∃ R : mc_Q, mc_WP (mc_en 84 [.ref 84, .int y0] (I, J, rf_w r, sh_w N, n)) R ∧ (∀ v t, R (.inl v) t → mc_WP (88, 65, [.ref 84, .int x1, .int x2, .int y0, .int (0 : Int32)], v.toList ++ [], t, (0, 0)) Q) ∧ (∀ k t, R (.inr k) t → Q (.inr k) t))) ∧
        (¬ ((I 84 20) < 0) →
        ((¬ (I 84 18) = (63 : Int32) →
          (∃ R : mc_Q, mc_WP (mc_en 84 [.ref 84, .int y0] (I, J, rf_w r, sh_w N, n)) R ∧ (∀ v t, R (.inl v) t → mc_WP (88, 65, [.ref 84, .int x1, .int x2, .int y0, .int (0 : Int32)], v.toList ++ [], t, (0, 0)) Q) ∧ (∀ k t, R (.inr k) t → Q (.inr k) t))) ∧
          (¬ (¬ (I 84 18) = (63 : Int32)) →
          (∃ R : mc_Q, mc_WP (mc_en 84 [.ref 84, .int y0] (I, J, rf_w r, sh_w N, n)) R ∧ (∀ v t, R (.inl v) t → mc_WP (88, 65, [.ref 84, .int x1, .int x2, .int y0, .int (1 : Int32)], v.toList ++ [], t, (0, 0)) Q) ∧ (∀ k t, R (.inr k) t → Q (.inr k) t)))))) :
    mc_WP (88, 36, [.ref 84, .int x1, .int x2, x3, x4], [.int y0], (I, J, rf_w r, sh_w N, n), (0, 0)) Q := by
  exact (mc_WP.run (mc_adjs _) 4 (And.intro rfl (And.intro (fun c7 => (mc_WP.run (mc_adjs _) 5 (And.intro rfl (And.intro (by decide) (And.intro (by decide) (h.1 c7)))))) (fun c7 => (mc_WP.run (mc_adjs _) 4 (And.intro rfl (And.intro (fun c8 => (mc_WP.run (mc_adjs _) 5 (And.intro rfl (And.intro (by decide) (And.intro (by decide) ((h.2 c7).1 c8)))))) (fun c8 => (mc_WP.run (mc_adjs _) 2 (mc_WP.run (mc_adjs _) 4 (And.intro rfl (And.intro (by decide) (And.intro (by decide) ((h.2 c7).2 c8))))))))))))))
set_option maxRecDepth 20000 in
theorem bk_88_65 {x1 : Int32} {x2 : Int32} {x3 : Int32} {x4 : Int32}
    (h : ∃ R : mc_Q, mc_WP (mc_en 80 [.ref 84, .int x3] (I, J, rf_w r, sh_w N, n)) R ∧ (∀ v t, R (.inl v) t → mc_WP (88, 70, [.ref 84, .int x1, .int x2, .int x3, .int x4], v.toList ++ [], t, (0, 0)) Q) ∧ (∀ k t, R (.inr k) t → Q (.inr k) t)) :
    mc_WP (88, 65, [.ref 84, .int x1, .int x2, .int x3, .int x4], [], (I, J, rf_w r, sh_w N, n), (0, 0)) Q := by
  exact (mc_WP.run (mc_adjs _) 3 (And.intro rfl (And.intro (by decide) (And.intro (by decide) h))))
set_option maxRecDepth 20000 in
theorem bk_88_70 {x1 : Int32} {x2 : Int32} {x3 : Int32} {x4 : Int32}
    (h : vp_in x3 64 ∧ (x4 = 0 →
        (mc_WP (88, 25, [.ref 84, .int x1, .int (x2 + (I 98 x3.toNatClampNeg)), .int x3, .int x4], [], (I, J, rf_w r, sh_w N, n), (0, 0)) Q)) ∧
        (¬ (x4 = 0) →
        ((x1 ≤ (x2 + (I 98 x3.toNatClampNeg)) →
          (mc_WP (88, 25, [.ref 84, .int x1, .int (x2 + (I 98 x3.toNatClampNeg)), .int x3, .int x4], [], (I, J, rf_w r, sh_w N, n), (0, 0)) Q)) ∧
          (¬ (x1 ≤ (x2 + (I 98 x3.toNatClampNeg))) →
          (∃ R : mc_Q, mc_WP (mc_en 84 [.ref 84, .int (I 84 19)] (I, J, rf_w r, sh_w N, n)) R ∧ (∀ v t, R (.inl v) t → mc_WP (88, 97, [.ref 84, .int x1, .int (x2 + (I 98 x3.toNatClampNeg)), .int x3, .int x4], v.toList ++ [], t, (0, 0)) Q) ∧ (∀ k t, R (.inr k) t → Q (.inr k) t)))))) :
    mc_WP (88, 70, [.ref 84, .int x1, .int x2, .int x3, .int x4], [], (I, J, rf_w r, sh_w N, n), (0, 0)) Q := by
  exact (mc_WP.run (mc_adjs _) 9 (And.intro ⟨rfl, (show ¬ (98 : Nat) = 0 by decide)⟩ (And.intro (wl_ld rfl h.1) (And.intro (fun c6 => (mc_WP.run (mc_adjs _) 1 (h.2.1 c6))) (fun c6 => (mc_WP.run (mc_adjs _) 3 (And.intro (fun c7 => (mc_WP.run (mc_adjs _) 1 ((h.2.2 c6).1 c7))) (fun c7 => (mc_WP.run (mc_adjs _) 4 (And.intro rfl (And.intro rfl (And.intro (by decide) (And.intro (by decide) ((h.2.2 c6).2 c7))))))))))))))
set_option maxRecDepth 20000 in
theorem bk_88_97 {x1 : Int32} {x2 : Int32} {x3 : Int32} {x4 : Int32}
    (h : mc_WP (88, 25, [.ref 84, .int x1, .int x2, .int x3, .int x4], [], ((mc_up (mc_up I 84 18 ((I 84 19) + (2 : Int32))) 84 20 (-1 : Int32)), J, rf_w r, sh_w N, n), (0, 0)) Q) :
    mc_WP (88, 97, [.ref 84, .int x1, .int x2, .int x3, .int x4], [], (I, J, rf_w r, sh_w N, n), (0, 0)) Q := by
  exact (mc_WP.run (mc_adjs _) 2 (And.intro rfl (And.intro (by decide) (And.intro (by decide) (mc_inl (mc_WP.run (mc_adjs _) 10 (And.intro rfl (And.intro rfl (And.intro rfl (mc_WP.run (mc_adjs _) 1 h))))))))))
set_option maxRecDepth 20000 in
theorem bk_88_114 {x1 : Int32} {x2 : Int32} {x3 : Value} {x4 : Value}
    (h : ((I 84 25) ≤ 0 →
        (mc_WP (88, 133, [.ref 84, .int x1, .int x2, x3, x4], [], (I, J, rf_w r, sh_w N, n), (0, 0)) Q)) ∧
        (¬ ((I 84 25) ≤ 0) →
        (∃ R : mc_Q, mc_WP (mc_en 83 [.ref 84, .int ((I 84 24) &&& (255 : Int32))] (I, J, rf_w r, sh_w N, n)) R ∧ (∀ v t, R (.inl v) t → mc_WP (88, 133, [.ref 84, .int x1, .int x2, x3, x4], v.toList ++ [], t, (0, 0)) Q) ∧ (∀ k t, R (.inr k) t → Q (.inr k) t)))) :
    mc_WP (88, 114, [.ref 84, .int x1, .int x2, x3, x4], [], (I, J, rf_w r, sh_w N, n), (0, 0)) Q := by
  exact (mc_WP.run (mc_adjs _) 3 (And.intro rfl (And.intro (fun c3 => (h.1 c3)) (fun c3 => (mc_WP.run (mc_adjs _) 6 (And.intro rfl (And.intro rfl (And.intro (by decide) (And.intro (by decide) (h.2 c3))))))))))
set_option maxRecDepth 20000 in
theorem bk_88_133 {x1 : Int32} {x2 : Int32} {x3 : Value} {x4 : Value}
    (h : vp_in (I 84 10) 800 ∧ Q (.inl none) ((mc_up (mc_up I 91 (I 84 10).toNatClampNeg (0 : Int32)) 84 10 ((I 84 10) + (1 : Int32))), J, rf_w r, sh_w N, n)) :
    mc_WP (88, 133, [.ref 84, .int x1, .int x2, x3, x4], [], (I, J, rf_w r, sh_w N, n), (0, 0)) Q := by
  exact (mc_WP.run (mc_adjs _) 3 (And.intro rfl (And.intro (by decide) (And.intro (by decide) (mc_inl (mc_WP.run (mc_adjs _) 13 (And.intro ⟨rfl, (show ¬ (91 : Nat) = 0 by decide)⟩ (And.intro rfl (And.intro (wl_st rfl h.1 (show 10 ≤ (91 : Nat) by decide)) (And.intro rfl (And.intro rfl (mc_WP.run (mc_adjs _) 1 h.2))))))))))))
-- 89 putFrame(I)V joins inl<=0
set_option maxRecDepth 20000 in
theorem bk_89_0 {x1 : Int32}
    (h : vp_in (((9 : Int32) * (x1 + (1 : Int32))) + (7 : Int32)) 45 ∧ ∃ R : mc_Q, mc_WP (mc_en 81 [.ref 84, .int (33 : Int32)] (I, J, rf_w r, sh_w N, n)) R ∧ (∀ v t, R (.inl v) t → mc_WP (89, 23, [.ref 84, .int x1, .int ((9 : Int32) * (x1 + (1 : Int32))), .int (I 85 (((9 : Int32) * (x1 + (1 : Int32))) + (7 : Int32)).toNatClampNeg), .null, .null, .null, .null, .null], v.toList ++ [], t, (0, 0)) Q) ∧ (∀ k t, R (.inr k) t → Q (.inr k) t)) :
    mc_WP (mc_en 89 [.ref 84, .int x1] (I, J, rf_w r, sh_w N, n)) Q := by
  exact (mc_WP.run (mc_adjs _) 16 (And.intro ⟨rfl, (show ¬ (85 : Nat) = 0 by decide)⟩ (And.intro (wl_ld rfl h.1) (And.intro rfl (And.intro (by decide) (And.intro (by decide) h.2))))))
set_option maxRecDepth 20000 in
theorem bk_89_23 {x1 : Int32} {x2 : Int32} {x3 : Int32}
    (h : vp_in (x2 + (5 : Int32)) 45 ∧ (0 ≤ x3 →
        (mc_WP (89, 42, [.ref 84, .int x1, .int x2, .int x3, .null, .null, .null, .null, .null], [.int (16 : Int32), .int (I 85 (x2 + (5 : Int32)).toNatClampNeg), .ref 84], (I, J, rf_w r, sh_w N, n), (0, 0)) Q)) ∧
        (¬ (0 ≤ x3) →
        (mc_WP (89, 42, [.ref 84, .int x1, .int x2, .int x3, .null, .null, .null, .null, .null], [.int (0 : Int32), .int (I 85 (x2 + (5 : Int32)).toNatClampNeg), .ref 84], (I, J, rf_w r, sh_w N, n), (0, 0)) Q))) :
    mc_WP (89, 23, [.ref 84, .int x1, .int x2, .int x3, .null, .null, .null, .null, .null], [], (I, J, rf_w r, sh_w N, n), (0, 0)) Q := by
  exact (mc_WP.run (mc_adjs _) 9 (And.intro ⟨rfl, (show ¬ (85 : Nat) = 0 by decide)⟩ (And.intro (wl_ld rfl h.1) (And.intro (fun c4 => (mc_WP.run (mc_adjs _) 1 (h.2.1 c4))) (fun c4 => (mc_WP.run (mc_adjs _) 2 (h.2.2 c4)))))))
set_option maxRecDepth 20000 in
theorem bk_89_42 {x1 : Int32} {x2 : Int32} {x3 : Int32} {y1 : Int32} {y2 : Int32}
    (h : ∃ R : mc_Q, mc_WP (mc_en 81 [.ref 84, .int (y1 + y2)] (I, J, rf_w r, sh_w N, n)) R ∧ (∀ v t, R (.inl v) t → mc_WP (89, 46, [.ref 84, .int x1, .int x2, .int x3, .null, .null, .null, .null, .null], v.toList ++ [], t, (0, 0)) Q) ∧ (∀ k t, R (.inr k) t → Q (.inr k) t)) :
    mc_WP (89, 42, [.ref 84, .int x1, .int x2, .int x3, .null, .null, .null, .null, .null], [.int y2, .int y1, .ref 84], (I, J, rf_w r, sh_w N, n), (0, 0)) Q := by
  exact (mc_WP.run (mc_adjs _) 2 (And.intro rfl (And.intro (by decide) (And.intro (by decide) h))))
set_option maxRecDepth 20000 in
theorem bk_89_46 {x1 : Int32} {x2 : Int32} {x3 : Int32}
    (h : vp_in (x2 + (6 : Int32)) 45 ∧ ∃ R : mc_Q, mc_WP (mc_en 81 [.ref 84, .int (I 85 (x2 + (6 : Int32)).toNatClampNeg)] (I, J, rf_w r, sh_w N, n)) R ∧ (∀ v t, R (.inl v) t → mc_WP (89, 59, [.ref 84, .int x1, .int x2, .int x3, .null, .null, .null, .null, .null], v.toList ++ [], t, (0, 0)) Q) ∧ (∀ k t, R (.inr k) t → Q (.inr k) t)) :
    mc_WP (89, 46, [.ref 84, .int x1, .int x2, .int x3, .null, .null, .null, .null, .null], [], (I, J, rf_w r, sh_w N, n), (0, 0)) Q := by
  exact (mc_WP.run (mc_adjs _) 8 (And.intro ⟨rfl, (show ¬ (85 : Nat) = 0 by decide)⟩ (And.intro (wl_ld rfl h.1) (And.intro rfl (And.intro (by decide) (And.intro (by decide) h.2))))))
set_option maxRecDepth 20000 in
theorem bk_89_59 {x1 : Int32} {x2 : Int32} {x3 : Int32}
    (h : (0 ≤ x3 →
        (mc_WP (89, 69, [.ref 84, .int x1, .int x2, .int x3, .null, .null, .null, .null, .null], [.int x3, .ref 84], (I, J, rf_w r, sh_w N, n), (0, 0)) Q)) ∧
        (¬ (0 ≤ x3) →
        (mc_WP (89, 69, [.ref 84, .int x1, .int x2, .int x3, .null, .null, .null, .null, .null], [.int (0 : Int32), .ref 84], (I, J, rf_w r, sh_w N, n), (0, 0)) Q))) :
    mc_WP (89, 59, [.ref 84, .int x1, .int x2, .int x3, .null, .null, .null, .null, .null], [], (I, J, rf_w r, sh_w N, n), (0, 0)) Q := by
  exact (mc_WP.run (mc_adjs _) 3 (And.intro (fun c4 => (mc_WP.run (mc_adjs _) 1 (h.1 c4))) (fun c4 => (mc_WP.run (mc_adjs _) 2 (h.2 c4)))))
set_option maxRecDepth 20000 in
theorem bk_89_69 {x1 : Int32} {x2 : Int32} {x3 : Int32} {y1 : Int32}
    (h : ∃ R : mc_Q, mc_WP (mc_en 81 [.ref 84, .int y1] (I, J, rf_w r, sh_w N, n)) R ∧ (∀ v t, R (.inl v) t → mc_WP (89, 72, [.ref 84, .int x1, .int x2, .int x3, .null, .null, .null, .null, .null], v.toList ++ [], t, (0, 0)) Q) ∧ (∀ k t, R (.inr k) t → Q (.inr k) t)) :
    mc_WP (89, 69, [.ref 84, .int x1, .int x2, .int x3, .null, .null, .null, .null, .null], [.int y1, .ref 84], (I, J, rf_w r, sh_w N, n), (0, 0)) Q := by
  exact (mc_WP.run (mc_adjs _) 1 (And.intro rfl (And.intro (by decide) (And.intro (by decide) h))))
set_option maxRecDepth 20000 in
theorem bk_89_72 {x1 : Int32} {x2 : Int32} {x3 : Int32}
    (h : ∃ R : mc_Q, mc_WP (mc_en 81 [.ref 84, .int (44 : Int32)] (I, J, rf_w r, sh_w N, n)) R ∧ (∀ v t, R (.inl v) t → mc_WP (89, 78, [.ref 84, .int x1, .int x2, .int x3, .null, .null, .null, .null, .null], v.toList ++ [], t, (0, 0)) Q) ∧ (∀ k t, R (.inr k) t → Q (.inr k) t)) :
    mc_WP (89, 72, [.ref 84, .int x1, .int x2, .int x3, .null, .null, .null, .null, .null], [], (I, J, rf_w r, sh_w N, n), (0, 0)) Q := by
  exact (mc_WP.run (mc_adjs _) 3 (And.intro rfl (And.intro (by decide) (And.intro (by decide) h))))
set_option maxRecDepth 20000 in
theorem bk_89_78 {x1 : Int32} {x2 : Int32} {x3 : Int32}
    (h : mc_WP (89, 81, [.ref 84, .int x1, .int x2, .int x3, .int (0 : Int32), .null, .null, .null, .null], [], (I, J, rf_w r, sh_w N, n), (0, 0)) Q) :
    mc_WP (89, 78, [.ref 84, .int x1, .int x2, .int x3, .null, .null, .null, .null, .null], [], (I, J, rf_w r, sh_w N, n), (0, 0)) Q := by
  exact (mc_WP.run (mc_adjs _) 2 h)
set_option maxRecDepth 20000 in
theorem bk_89_81 {x1 : Int32} {x2 : Int32} {x3 : Int32} {x4 : Int32}
    (h : ((3 : Int32) < x4 →
        (vp_in (x2 + (4 : Int32)) 45 ∧ vp_in (x2 + (8 : Int32)) 45 ∧ (¬ (I 85 (x2 + (4 : Int32)).toNatClampNeg) = 0 →
          (mc_WP (89, 143, [.ref 84, .int x1, .int x2, .int x3, .int (I 85 (x2 + (4 : Int32)).toNatClampNeg), .null, .null, .null, .null], [.int ((2 : Int32) + ((4 : Int32) * ((I 85 (x2 + (4 : Int32)).toNatClampNeg) - (1 : Int32)))), .int (I 85 (x2 + (8 : Int32)).toNatClampNeg), .ref 84], (I, J, rf_w r, sh_w N, n), (0, 0)) Q)) ∧
          (¬ (¬ (I 85 (x2 + (4 : Int32)).toNatClampNeg) = 0) →
          (mc_WP (89, 143, [.ref 84, .int x1, .int x2, .int x3, .int (I 85 (x2 + (4 : Int32)).toNatClampNeg), .null, .null, .null, .null], [.int (0 : Int32), .int (I 85 (x2 + (8 : Int32)).toNatClampNeg), .ref 84], (I, J, rf_w r, sh_w N, n), (0, 0)) Q)))) ∧
        (¬ ((3 : Int32) < x4) →
        (vp_in (x2 + x4) 45 ∧ ∃ R : mc_Q, mc_WP (mc_en 81 [.ref 84, .int (I 85 (x2 + x4).toNatClampNeg)] (I, J, rf_w r, sh_w N, n)) R ∧ (∀ v t, R (.inl v) t → mc_WP (89, 100, [.ref 84, .int x1, .int x2, .int x3, .int x4, .null, .null, .null, .null], v.toList ++ [], t, (0, 0)) Q) ∧ (∀ k t, R (.inr k) t → Q (.inr k) t)))) :
    mc_WP (89, 81, [.ref 84, .int x1, .int x2, .int x3, .int x4, .null, .null, .null, .null], [], (I, J, rf_w r, sh_w N, n), (0, 0)) Q := by
  exact (mc_WP.run (mc_adjs _) 3 (And.intro (fun c6 => (mc_WP.run (mc_adjs _) 16 (And.intro ⟨rfl, (show ¬ (85 : Nat) = 0 by decide)⟩ (And.intro (wl_ld rfl (h.1 c6).1) (And.intro ⟨rfl, (show ¬ (85 : Nat) = 0 by decide)⟩ (And.intro (wl_ld rfl (h.1 c6).2.1) (And.intro (fun c7 => (mc_WP.run (mc_adjs _) 7 ((h.1 c6).2.2.1 c7))) (fun c7 => (mc_WP.run (mc_adjs _) 2 ((h.1 c6).2.2.2 c7)))))))))) (fun c6 => (mc_WP.run (mc_adjs _) 8 (And.intro ⟨rfl, (show ¬ (85 : Nat) = 0 by decide)⟩ (And.intro (wl_ld rfl (h.2 c6).1) (And.intro rfl (And.intro (by decide) (And.intro (by decide) (h.2 c6).2)))))))))
set_option maxRecDepth 20000 in
theorem bk_89_100 {x1 : Int32} {x2 : Int32} {x3 : Int32} {x4 : Int32}
    (h : mc_WP (89, 81, [.ref 84, .int x1, .int x2, .int x3, .int (x4 + (1 : Int32)), .null, .null, .null, .null], [], (I, J, rf_w r, sh_w N, n), (0, 0)) Q) :
    mc_WP (89, 100, [.ref 84, .int x1, .int x2, .int x3, .int x4, .null, .null, .null, .null], [], (I, J, rf_w r, sh_w N, n), (0, 0)) Q := by
  exact (mc_WP.run (mc_adjs _) 2 h)
set_option maxRecDepth 20000 in
theorem bk_89_143 {x1 : Int32} {x2 : Int32} {x3 : Int32} {x4 : Int32} {y1 : Int32} {y2 : Int32}
    (h : ∃ R : mc_Q, mc_WP (mc_en 81 [.ref 84, .int (y1 + y2)] (I, J, rf_w r, sh_w N, n)) R ∧ (∀ v t, R (.inl v) t → mc_WP (89, 147, [.ref 84, .int x1, .int x2, .int x3, .int x4, .null, .null, .null, .null], v.toList ++ [], t, (0, 0)) Q) ∧ (∀ k t, R (.inr k) t → Q (.inr k) t)) :
    mc_WP (89, 143, [.ref 84, .int x1, .int x2, .int x3, .int x4, .null, .null, .null, .null], [.int y2, .int y1, .ref 84], (I, J, rf_w r, sh_w N, n), (0, 0)) Q := by
  exact (mc_WP.run (mc_adjs _) 2 (And.intro rfl (And.intro (by decide) (And.intro (by decide) h))))
set_option maxRecDepth 20000 in
theorem bk_89_147 {x1 : Int32} {x2 : Int32} {x3 : Int32} {x4 : Int32}
    (h : (x4 ≤ 0 →
        (mc_WP (89, 157, [.ref 84, .int x1, .int x2, .int x3, .int x4, .null, .null, .null, .null], [], (I, J, rf_w r, sh_w N, n), (0, 0)) Q)) ∧
        (¬ (x4 ≤ 0) →
        (∃ R : mc_Q, mc_WP (mc_en 82 [.ref 84, .int x1] (I, J, rf_w r, sh_w N, n)) R ∧ (∀ v t, R (.inl v) t → mc_WP (89, 157, [.ref 84, .int x1, .int x2, .int x3, .int x4, .null, .null, .null, .null], v.toList ++ [], t, (0, 0)) Q) ∧ (∀ k t, R (.inr k) t → Q (.inr k) t)))) :
    mc_WP (89, 147, [.ref 84, .int x1, .int x2, .int x3, .int x4, .null, .null, .null, .null], [], (I, J, rf_w r, sh_w N, n), (0, 0)) Q := by
  exact (mc_WP.run (mc_adjs _) 2 (And.intro (fun c3 => (h.1 c3)) (fun c3 => (mc_WP.run (mc_adjs _) 3 (And.intro rfl (And.intro (by decide) (And.intro (by decide) (h.2 c3))))))))
set_option maxRecDepth 20000 in
theorem bk_89_157 {x1 : Int32} {x2 : Int32} {x3 : Int32} {x4 : Int32}
    (h : mc_WP (89, 163, [.ref 84, .int x1, .int x2, .int x3, .int x4, .int (0 : Int32), .int (0 : Int32), .null, .null], [], (I, J, rf_w r, sh_w N, n), (0, 0)) Q) :
    mc_WP (89, 157, [.ref 84, .int x1, .int x2, .int x3, .int x4, .null, .null, .null, .null], [], (I, J, rf_w r, sh_w N, n), (0, 0)) Q := by
  exact (mc_WP.run (mc_adjs _) 4 h)
set_option maxRecDepth 20000 in
theorem bk_89_163 {x1 : Int32} {x2 : Int32} {x3 : Int32} {x4 : Int32} {x5 : Int32} {x6 : Int32} {x7 : Value} {x8 : Value}
    (h : vp_in (x2 + (3 : Int32)) 45 ∧ ((I 85 (x2 + (3 : Int32)).toNatClampNeg) ≤ x6 →
        (∃ R : mc_Q, mc_WP (mc_en 60 [.ref 84, .int x1] (I, J, rf_w r, sh_w N, n)) R ∧ (∀ v t, R (.inl v) t → mc_WP (89, 270, [.ref 84, .int x1, .int x2, .int x3, .int x4, .int x5, .int x6, x7, x8], v.toList ++ [], t, (0, 0)) Q) ∧ (∀ k t, R (.inr k) t → Q (.inr k) t))) ∧
        (¬ ((I 85 (x2 + (3 : Int32)).toNatClampNeg) ≤ x6) →
        (vp_in (x2 + (3 : Int32)) 45 ∧ vp_in (x2 + (8 : Int32)) 45 ∧ (¬ (I 85 (x2 + (8 : Int32)).toNatClampNeg) = (1 : Int32) →
          (mc_WP (89, 204, [.ref 84, .int x1, .int x2, .int x3, .int x4, .int x5, .int x6, x7, x8], [.int (0 : Int32), .int (I 85 (x2 + (3 : Int32)).toNatClampNeg), .int x6], (I, J, rf_w r, sh_w N, n), (0, 0)) Q)) ∧
          (¬ (¬ (I 85 (x2 + (8 : Int32)).toNatClampNeg) = (1 : Int32)) →
          (mc_WP (89, 204, [.ref 84, .int x1, .int x2, .int x3, .int x4, .int x5, .int x6, x7, x8], [.int (1 : Int32), .int (I 85 (x2 + (3 : Int32)).toNatClampNeg), .int x6], (I, J, rf_w r, sh_w N, n), (0, 0)) Q))))) :
    mc_WP (89, 163, [.ref 84, .int x1, .int x2, .int x3, .int x4, .int x5, .int x6, x7, x8], [], (I, J, rf_w r, sh_w N, n), (0, 0)) Q := by
  exact (mc_WP.run (mc_adjs _) 8 (And.intro ⟨rfl, (show ¬ (85 : Nat) = 0 by decide)⟩ (And.intro (wl_ld rfl h.1) (And.intro (fun c6 => (mc_WP.run (mc_adjs _) 3 (And.intro rfl (And.intro (by decide) (And.intro (by decide) (h.2.1 c6)))))) (fun c6 => (mc_WP.run (mc_adjs _) 15 (And.intro ⟨rfl, (show ¬ (85 : Nat) = 0 by decide)⟩ (And.intro (wl_ld rfl (h.2.2 c6).1) (And.intro ⟨rfl, (show ¬ (85 : Nat) = 0 by decide)⟩ (And.intro (wl_ld rfl (h.2.2 c6).2.1) (And.intro (fun c7 => (mc_WP.run (mc_adjs _) 1 ((h.2.2 c6).2.2.1 c7))) (fun c7 => (mc_WP.run (mc_adjs _) 2 ((h.2.2 c6).2.2.2 c7))))))))))))))
set_option maxRecDepth 20000 in
theorem bk_89_204 {x1 : Int32} {x2 : Int32} {x3 : Int32} {x4 : Int32} {x5 : Int32} {x6 : Int32} {x7 : Value} {x8 : Value} {y0 : Int32} {y1 : Int32} {y2 : Int32}
    (h : ∃ R : mc_Q, mc_WP (mc_en 76 [.int y0, .int y1, .int y2] (I, J, rf_w r, sh_w N, n)) R ∧ (∀ v t, R (.inl v) t → mc_WP (89, 207, [.ref 84, .int x1, .int x2, .int x3, .int x4, .int x5, .int x6, x7, x8], v.toList ++ [], t, (0, 0)) Q) ∧ (∀ k t, R (.inr k) t → Q (.inr k) t)) :
    mc_WP (89, 204, [.ref 84, .int x1, .int x2, .int x3, .int x4, .int x5, .int x6, x7, x8], [.int y2, .int y1, .int y0], (I, J, rf_w r, sh_w N, n), (0, 0)) Q := by
  exact (mc_WP.run (mc_adjs _) 1 (And.intro (by decide) (And.intro (by decide) h)))
set_option maxRecDepth 20000 in
theorem bk_89_207 {x1 : Int32} {x2 : Int32} {x3 : Int32} {x4 : Int32} {x5 : Int32} {x6 : Int32} {x7 : Value} {x8 : Value} {y0 : Int32}
    (h : mc_WP (89, 212, [.ref 84, .int x1, .int x2, .int x3, .int x4, .int x5, .int x6, .int y0, .int (0 : Int32)], [], (I, J, rf_w r, sh_w N, n), (0, 0)) Q) :
    mc_WP (89, 207, [.ref 84, .int x1, .int x2, .int x3, .int x4, .int x5, .int x6, x7, x8], [.int y0], (I, J, rf_w r, sh_w N, n), (0, 0)) Q := by
  exact (mc_WP.run (mc_adjs _) 3 h)
set_option maxRecDepth 20000 in
theorem bk_89_212 {x1 : Int32} {x2 : Int32} {x3 : Int32} {x4 : Int32} {x5 : Int32} {x6 : Int32} {x7 : Int32} {x8 : Int32}
    (h : vp_in (x2 + (2 : Int32)) 45 ∧ ((I 85 (x2 + (2 : Int32)).toNatClampNeg) ≤ x8 →
        (mc_WP (89, 163, [.ref 84, .int x1, .int x2, .int x3, .int x4, .int x5, .int (x6 + (1 : Int32)), .int x7, .int x8], [], (I, J, rf_w r, sh_w N, n), (0, 0)) Q)) ∧
        (¬ ((I 85 (x2 + (2 : Int32)).toNatClampNeg) ≤ x8) →
        (vp_in ((((64 : Int32) * x1) + ((8 : Int32) * x7)) + x8) 256 ∧ vp_in x5 64 ∧ mc_WP (89, 212, [.ref 84, .int x1, .int x2, .int x3, .int x4, .int (x5 + (1 : Int32)), .int x6, .int x7, .int (x8 + (1 : Int32))], [], ((mc_up I 99 x5.toNatClampNeg (I 87 ((((64 : Int32) * x1) + ((8 : Int32) * x7)) + x8).toNatClampNeg)), J, rf_w r, sh_w N, n), (0, 0)) Q))) :
    mc_WP (89, 212, [.ref 84, .int x1, .int x2, .int x3, .int x4, .int x5, .int x6, .int x7, .int x8], [], (I, J, rf_w r, sh_w N, n), (0, 0)) Q := by
  exact (mc_WP.run (mc_adjs _) 8 (And.intro ⟨rfl, (show ¬ (85 : Nat) = 0 by decide)⟩ (And.intro (wl_ld rfl h.1) (And.intro (fun c4 => (mc_WP.run (mc_adjs _) 2 (h.2.1 c4))) (fun c4 => (mc_WP.run (mc_adjs _) 19 (And.intro ⟨rfl, (show ¬ (99 : Nat) = 0 by decide)⟩ (And.intro ⟨rfl, (show ¬ (87 : Nat) = 0 by decide)⟩ (And.intro (wl_ld rfl (h.2.2 c4).1) (And.intro (wl_st rfl (h.2.2 c4).2.1 (show 10 ≤ (99 : Nat) by decide)) (h.2.2 c4).2.2))))))))))
set_option maxRecDepth 20000 in
theorem bk_89_270 {x1 : Int32} {x2 : Int32} {x3 : Int32} {x4 : Int32} {x5 : Int32} {x6 : Int32} {x7 : Value} {x8 : Value} {y0 : Int32}
    (h : ((2 : Int32) ≤ y0 →
        (∃ R : mc_Q, mc_WP (mc_en 60 [.ref 84, .int x1] (I, J, rf_w r, sh_w N, n)) R ∧ (∀ v t, R (.inl v) t → mc_WP (89, 283, [.ref 84, .int x1, .int x2, .int x3, .int x4, .int x5, .int x6, x7, x8], v.toList ++ [], t, (0, 0)) Q) ∧ (∀ k t, R (.inr k) t → Q (.inr k) t))) ∧
        (¬ ((2 : Int32) ≤ y0) →
        (mc_WP (89, 283, [.ref 84, .int x1, .int x2, .int x3, .int x4, .int x5, .int x6, x7, x8], [.int (2 : Int32)], (I, J, rf_w r, sh_w N, n), (0, 0)) Q))) :
    mc_WP (89, 270, [.ref 84, .int x1, .int x2, .int x3, .int x4, .int x5, .int x6, x7, x8], [.int y0], (I, J, rf_w r, sh_w N, n), (0, 0)) Q := by
  exact (mc_WP.run (mc_adjs _) 2 (And.intro (fun c4 => (mc_WP.run (mc_adjs _) 3 (And.intro rfl (And.intro (by decide) (And.intro (by decide) (h.1 c4)))))) (fun c4 => (mc_WP.run (mc_adjs _) 2 (h.2 c4)))))
set_option maxRecDepth 20000 in
theorem bk_89_283 {x1 : Int32} {x2 : Int32} {x3 : Int32} {x4 : Int32} {x5 : Int32} {x6 : Int32} {x7 : Value} {x8 : Value} {y0 : Int32}
    (h : ∃ R : mc_Q, mc_WP (mc_en 81 [.ref 84, .int y0] (I, J, rf_w r, sh_w N, n)) R ∧ (∀ v t, R (.inl v) t → mc_WP (89, 291, [.ref 84, .int x1, .int x2, .int x3, .int x4, .int x5, .int y0, x7, x8], v.toList ++ [], t, (0, 0)) Q) ∧ (∀ k t, R (.inr k) t → Q (.inr k) t)) :
    mc_WP (89, 283, [.ref 84, .int x1, .int x2, .int x3, .int x4, .int x5, .int x6, x7, x8], [.int y0], (I, J, rf_w r, sh_w N, n), (0, 0)) Q := by
  exact (mc_WP.run (mc_adjs _) 4 (And.intro rfl (And.intro (by decide) (And.intro (by decide) h))))
set_option maxRecDepth 20000 in
theorem bk_89_291 {x1 : Int32} {x2 : Int32} {x3 : Int32} {x4 : Int32} {x5 : Int32} {x6 : Int32} {x7 : Value} {x8 : Value}
    (h : ∃ R : mc_Q, mc_WP (mc_en 77 [.ref 84, .int x6] (I, J, rf_w r, sh_w N, n)) R ∧ (∀ v t, R (.inl v) t → mc_WP (89, 297, [.ref 84, .int x1, .int x2, .int x3, .int x4, .int x5, .int x6, x7, x8], v.toList ++ [], t, (0, 0)) Q) ∧ (∀ k t, R (.inr k) t → Q (.inr k) t)) :
    mc_WP (89, 291, [.ref 84, .int x1, .int x2, .int x3, .int x4, .int x5, .int x6, x7, x8], [], (I, J, rf_w r, sh_w N, n), (0, 0)) Q := by
  exact (mc_WP.run (mc_adjs _) 3 (And.intro rfl (And.intro (by decide) (And.intro (by decide) h))))
set_option maxRecDepth 20000 in
theorem bk_89_297 {x1 : Int32} {x2 : Int32} {x3 : Int32} {x4 : Int32} {x5 : Int32} {x6 : Int32} {x7 : Value} {x8 : Value}
    (h : ∃ R : mc_Q, mc_WP (mc_en 88 [.ref 84, .int x5] (I, J, rf_w r, sh_w N, n)) R ∧ (∀ v t, R (.inl v) t → mc_WP (89, 303, [.ref 84, .int x1, .int x2, .int x3, .int x4, .int x5, .int x6, x7, x8], v.toList ++ [], t, (0, 0)) Q) ∧ (∀ k t, R (.inr k) t → Q (.inr k) t)) :
    mc_WP (89, 297, [.ref 84, .int x1, .int x2, .int x3, .int x4, .int x5, .int x6, x7, x8], [], (I, J, rf_w r, sh_w N, n), (0, 0)) Q := by
  exact (mc_WP.run (mc_adjs _) 3 (And.intro rfl (And.intro (by decide) (And.intro (by decide) h))))
set_option maxRecDepth 20000 in
theorem bk_89_303 {x1 : Int32} {x2 : Int32} {x3 : Int32} {x4 : Int32} {x5 : Int32} {x6 : Int32} {x7 : Value} {x8 : Value}
    (h : Q (.inl none) (I, J, rf_w r, sh_w N, n)) :
    mc_WP (89, 303, [.ref 84, .int x1, .int x2, .int x3, .int x4, .int x5, .int x6, x7, x8], [], (I, J, rf_w r, sh_w N, n), (0, 0)) Q := by
  exact (mc_WP.run (mc_adjs _) 1 h)
end
