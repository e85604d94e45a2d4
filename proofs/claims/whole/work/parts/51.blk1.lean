/-! what the code does between its cut points (printed by blocks.py) -/
section
variable {I : Nat → Nat → Int32} {J : Nat → Nat → Int64} {r N n : Nat} {Q : mc_Q}
-- 1 palette(II)I joins inl<=6
set_option maxRecDepth 20000 in
theorem bk_1_0 {x1 : Int32} {x2 : Int32}
    (h : ∃ R : mc_Q, mc_WP (mc_en 15 [.ref 10, .int x1] (I, J, rf_w r, sh_w N, n)) R ∧ (∀ v t, R (.inl v) t → mc_WP (1, 5, [.ref 10, .int x1, .int x2, .null], v.toList ++ [], t, (1, 6)) Q) ∧ (∀ k t, R (.inr k) t → Q (.inr k) t)) :
    mc_WP (mc_en 1 [.ref 10, .int x1, .int x2] (I, J, rf_w r, sh_w N, n)) Q := by
  exact (mc_WP.run (mc_adjs _) 3 (And.intro rfl (And.intro (by decide) (And.intro (by decide) h))))
set_option maxRecDepth 20000 in
theorem bk_1_5 {x1 : Int32} {x2 : Int32}
    (h : (¬ x1 = (-1 : Int32) →
        (mc_WP (1, 16, [.ref 10, .int x1, .int x2, .null], [.int (0 : Int32), .int x2], (I, J, rf_w r, sh_w N, n), (1, 6)) Q)) ∧
        (¬ (¬ x1 = (-1 : Int32)) →
        (mc_WP (1, 16, [.ref 10, .int x1, .int x2, .null], [.int (1 : Int32), .int x2], (I, J, rf_w r, sh_w N, n), (1, 6)) Q))) :
    mc_WP (1, 5, [.ref 10, .int x1, .int x2, .null], [], (I, J, rf_w r, sh_w N, n), (1, 6)) Q := by
  exact (mc_WP.run (mc_adjs _) 4 (And.intro (fun c4 => (mc_WP.run (mc_adjs _) 1 (h.1 c4))) (fun c4 => (mc_WP.run (mc_adjs _) 2 (h.2 c4)))))
set_option maxRecDepth 20000 in
theorem bk_1_16 {x1 : Int32} {x2 : Int32} {y0 : Int32} {y1 : Int32}
    (h : (y0 < y1 →
        (mc_WP (1, 24, [.ref 10, .int x1, .int x2, .null], [], (I, J, rf_w r, sh_w N, n), (1, 6)) Q)) ∧
        (¬ (y0 < y1) →
        ((x2 ≤ (4 : Int32) →
          ((¬ x2 = 0 →
            (mc_WP (1, 45, [.ref 10, .int x1, .int x2, .null], [.int ((1 : Int32) <<< (x2 &&& 31))], (I, J, rf_w r, sh_w N, n), (1, 6)) Q)) ∧
            (¬ (¬ x2 = 0) →
            (mc_WP (1, 45, [.ref 10, .int x1, .int x2, .null], [.int (0 : Int32)], (I, J, rf_w r, sh_w N, n), (1, 6)) Q)))) ∧
          (¬ (x2 ≤ (4 : Int32)) →
          (mc_WP (1, 24, [.ref 10, .int x1, .int x2, .null], [], (I, J, rf_w r, sh_w N, n), (1, 6)) Q))))) :
    mc_WP (1, 16, [.ref 10, .int x1, .int x2, .null], [.int y1, .int y0], (I, J, rf_w r, sh_w N, n), (1, 6)) Q := by
  exact (mc_WP.run (mc_adjs _) 1 (And.intro (fun c6 => (h.1 c6)) (fun c6 => (mc_WP.run (mc_adjs _) 3 (And.intro (fun c7 => (mc_WP.run (mc_adjs _) 2 (And.intro (fun c8 => (mc_WP.run (mc_adjs _) 3 (((h.2 c6).1 c7).1 c8))) (fun c8 => (mc_WP.run (mc_adjs _) 2 (((h.2 c6).1 c7).2 c8)))))) (fun c7 => ((h.2 c6).2 c7)))))))
set_option maxRecDepth 20000 in
theorem bk_1_24 {x1 : Int32} {x2 : Int32}
    (h : Q (.inr 2) (I, J, rf_w r, sh_w N, 0)) :
    mc_WP (1, 24, [.ref 10, .int x1, .int x2, .null], [], (I, J, rf_w r, sh_w N, n), (1, 6)) Q := by
  exact (mc_WP.run (mc_adjs _) 1 (And.intro (by decide) (And.intro (by decide) h)))
set_option maxRecDepth 20000 in
theorem bk_1_45 {x1 : Int32} {x2 : Int32} {y0 : Int32} (hr : is_R r)
    (h : (¬ x1 = (-1 : Int32) →
        (∃ R : mc_Q, mc_WP (mc_en 192 [.ref r, .int x1, .int y0] (I, J, rf_w r, sh_w N, n)) R ∧ (∀ v t, R (.inl v) t → mc_WP (1, 74, [.ref 10, .int x1, .int x2, .int y0], v.toList ++ [], t, (1, 6)) Q) ∧ (∀ k t, R (.inr k) t → Q (.inr k) t))) ∧
        (¬ (¬ x1 = (-1 : Int32)) →
        (∃ R : mc_Q, mc_WP (mc_en 193 [.ref r, .int y0] (I, J, rf_w r, sh_w N, n)) R ∧ (∀ v t, R (.inl v) t → mc_WP (1, 59, [.ref 10, .int x1, .int x2, .int y0], v.toList ++ [], t, (1, 6)) Q) ∧ (∀ k t, R (.inr k) t → Q (.inr k) t)))) :
    mc_WP (1, 45, [.ref 10, .int x1, .int x2, .null], [.int y0], (I, J, rf_w r, sh_w N, n), (1, 6)) Q := by
  exact (mc_WP.run (mc_adjs _) 4 (And.intro (fun c4 => (mc_WP.run (mc_adjs _) 5 (And.intro ⟨rfl, (wd_R0 hr)⟩ (And.intro (wd_R (r := r) (N := N) hr).1 (And.intro (by decide) (And.intro (by decide) (h.1 c4))))))) (fun c4 => (mc_WP.run (mc_adjs _) 4 (And.intro ⟨rfl, (wd_R0 hr)⟩ (And.intro (wd_R (r := r) (N := N) hr).1 (And.intro (by decide) (And.intro (by decide) (h.2 c4)))))))))
set_option maxRecDepth 20000 in
theorem bk_1_59 {x1 : Int32} {x2 : Int32} {x3 : Int32} {y0 : Int32}
    (h : (y0 = 0 →
        (mc_WP (1, 77, [.ref 10, .int x1, .int x2, .int x3], [], (I, J, rf_w r, sh_w N, n), (1, 6)) Q)) ∧
        (¬ (y0 = 0) →
        (mc_WP (1, 87, [.ref 10, .int x1, .int x2, .int x3], [], (I, J, rf_w r, sh_w N, n), (1, 6)) Q))) :
    mc_WP (1, 59, [.ref 10, .int x1, .int x2, .int x3], [.int y0], (I, J, rf_w r, sh_w N, n), (1, 6)) Q := by
  exact (mc_WP.run (mc_adjs _) 1 (And.intro (fun c3 => (h.1 c3)) (fun c3 => (mc_WP.run (mc_adjs _) 1 (h.2 c3)))))
set_option maxRecDepth 20000 in
theorem bk_1_74 {x1 : Int32} {x2 : Int32} {x3 : Int32} {y0 : Int32}
    (h : (¬ y0 = 0 →
        (mc_WP (1, 87, [.ref 10, .int x1, .int x2, .int x3], [], (I, J, rf_w r, sh_w N, n), (1, 6)) Q)) ∧
        (¬ (¬ y0 = 0) →
        (mc_WP (1, 77, [.ref 10, .int x1, .int x2, .int x3], [], (I, J, rf_w r, sh_w N, n), (1, 6)) Q))) :
    mc_WP (1, 74, [.ref 10, .int x1, .int x2, .int x3], [.int y0], (I, J, rf_w r, sh_w N, n), (1, 6)) Q := by
  exact (mc_WP.run (mc_adjs _) 1 (And.intro (fun c2 => (h.1 c2)) (fun c2 => (h.2 c2))))
set_option maxRecDepth 20000 in
theorem bk_1_77 {x1 : Int32} {x2 : Int32} {x3 : Int32}
    (h : Q (.inr 2) (I, J, rf_w r, sh_w N, 0)) :
    mc_WP (1, 77, [.ref 10, .int x1, .int x2, .int x3], [], (I, J, rf_w r, sh_w N, n), (1, 6)) Q := by
  exact (mc_WP.run (mc_adjs _) 1 (And.intro (by decide) (And.intro (by decide) h)))
set_option maxRecDepth 20000 in
theorem bk_1_87 {x1 : Int32} {x2 : Int32} {x3 : Int32} (hr : is_R r)
    (h : (¬ x1 = (-1 : Int32) →
        (vp_in x1 4 ∧ ∃ R : mc_Q, mc_WP (mc_en 156 [.ref ((r + 4 + 4 * x1.toNatClampNeg) + 2), .int x3] (I, J, rf_w r, sh_w N, n)) R ∧ (∀ v t, R (.inl v) t → mc_WP (1, 96, [.ref 10, .int x1, .int x2, .int x3], v.toList ++ [], t, (1, 6)) Q) ∧ (∀ k t, R (.inr k) t → Q (.inr k) t))) ∧
        (¬ (¬ x1 = (-1 : Int32)) →
        (∃ R : mc_Q, mc_WP (mc_en 156 [.ref (r + 1), .int x3] (I, J, rf_w r, sh_w N, n)) R ∧ (∀ v t, R (.inl v) t → mc_WP (1, 96, [.ref 10, .int x1, .int x2, .int x3], v.toList ++ [], t, (1, 6)) Q) ∧ (∀ k t, R (.inr k) t → Q (.inr k) t)))) :
    mc_WP (1, 87, [.ref 10, .int x1, .int x2, .int x3], [], (I, J, rf_w r, sh_w N, n), (1, 6)) Q := by
  exact (mc_WP.run (mc_adjs _) 3 (And.intro rfl (And.intro (by decide) (And.intro (by decide) (mc_inl (mc_WP.run (mc_adjs _) 3 (And.intro (fun c20 => (by have g3 := (h.1 c20); have e4 : rf_w r r 1 = (r + 3) := (wd_R (r := r) (N := N) hr).2.2.1; have s5 : sh_w N (rf_w r r 1) = (3, 4) := (by rw [e4]; exact (wd_R (r := r) (N := N) hr).2.2.2.2.2); (try rw [← e4] at g3); have f6 : vp_in x1 4 := g3.1; have e7 : rf_w r (rf_w r r 1) x1.toNatClampNeg = (r + 4 + 4 * x1.toNatClampNeg) := (by rw [e4]; exact (wd_A (r := r) (N := N) hr f6).1); have s8 : sh_w N (rf_w r (rf_w r r 1) x1.toNatClampNeg) = (1, 4) := (by rw [e7]; exact (wd_A (r := r) (N := N) hr f6).2.1); have k9 : is_F (rf_w r (rf_w r r 1) x1.toNatClampNeg) := (by rw [e7]; exact (wd_A (r := r) (N := N) hr f6).2.2); (try rw [← e7] at g3); have e10 : rf_w r (rf_w r (rf_w r r 1) x1.toNatClampNeg) 1 = ((rf_w r (rf_w r r 1) x1.toNatClampNeg) + 2) := (wd_F (r := r) (N := N) k9).2.2.1; have s11 : sh_w N (rf_w r (rf_w r (rf_w r r 1) x1.toNatClampNeg) 1) = (1, 6) := (by rw [e10]; exact (wd_F (r := r) (N := N) k9).2.2.2.2.1); have k12 : is_P (rf_w r (rf_w r (rf_w r r 1) x1.toNatClampNeg) 1) := (by rw [e10]; exact (wd_F (r := r) (N := N) k9).2.2.2.2.2); (try rw [← e10] at g3); exact (mc_WP.run (mc_adjs _) 7 (And.intro ⟨rfl, (wd_R0 hr)⟩ (And.intro ⟨(wd_R (r := r) (N := N) hr).1, (wd_Z s5)⟩ (And.intro (wl_la s5 g3.1 (wd_Z s8)) (And.intro ⟨s8, (wd_Z s11)⟩ (mc_WP.run (mc_adjs _) 2 (And.intro s11 (And.intro (by decide) (And.intro (by decide) g3.2))))))))))) (fun c20 => (by have g14 := (h.2 c20); have e15 : rf_w r r 0 = (r + 1) := (wd_R (r := r) (N := N) hr).2.1; have s16 : sh_w N (rf_w r r 0) = (1, 6) := (by rw [e15]; exact (wd_R (r := r) (N := N) hr).2.2.2.1); have k17 : is_P (rf_w r r 0) := (by rw [e15]; exact (wd_R (r := r) (N := N) hr).2.2.2.2.1); (try rw [← e15] at g14); exact (mc_WP.run (mc_adjs _) 4 (And.intro ⟨rfl, (wd_R0 hr)⟩ (And.intro ⟨(wd_R (r := r) (N := N) hr).1, (wd_Z s16)⟩ (mc_WP.run (mc_adjs _) 1 (mc_WP.run (mc_adjs _) 2 (And.intro s16 (And.intro (by decide) (And.intro (by decide) g14)))))))))))))))))
set_option maxRecDepth 20000 in
theorem bk_1_96 {x1 : Int32} {x2 : Int32} {x3 : Int32}
    (h : Q (.inl (some (.int x3))) (I, J, rf_w r, sh_w N, n)) :
    mc_WP (1, 96, [.ref 10, .int x1, .int x2, .int x3], [], (I, J, rf_w r, sh_w N, n), (1, 6)) Q := by
  exact (mc_WP.run (mc_adjs _) 2 h)
-- 2 colour(III)V inl<=6
set_option maxRecDepth 20000 in
theorem bk_2_0 {x1 : Int32} {x2 : Int32} {x3 : Int32}
    (h : ∃ R : mc_Q, mc_WP (mc_en 15 [.ref 10, .int x1] (I, J, rf_w r, sh_w N, n)) R ∧ (∀ v t, R (.inl v) t → mc_WP (2, 5, [.ref 10, .int x1, .int x2, .int x3, .null], v.toList ++ [], t, (1, 6)) Q) ∧ (∀ k t, R (.inr k) t → Q (.inr k) t)) :
    mc_WP (mc_en 2 [.ref 10, .int x1, .int x2, .int x3] (I, J, rf_w r, sh_w N, n)) Q := by
  exact (mc_WP.run (mc_adjs _) 3 (And.intro rfl (And.intro (by decide) (And.intro (by decide) h))))
set_option maxRecDepth 20000 in
theorem bk_2_5 {x1 : Int32} {x2 : Int32} {x3 : Int32} (hr : is_R r)
    (h : (¬ x1 = (-1 : Int32) →
        (vp_in x1 4 ∧ (x2 < 0 → (Q (.inr 1) (I, J, rf_w r, sh_w N, 0))) ∧
          (¬ (x2 < 0) →
          (((I ((r + 4 + 4 * x1.toNatClampNeg) + 2) 1) ≤ x2 → (Q (.inr 1) (I, J, rf_w r, sh_w N, 0))) ∧
            (¬ ((I ((r + 4 + 4 * x1.toNatClampNeg) + 2) 1) ≤ x2) →
            (vp_in x2 16 ∧ Q (.inl none) ((mc_up I (((r + 4 + 4 * x1.toNatClampNeg) + 2) + 1) x2.toNatClampNeg (x3 &&& (Int32.ofNat 16777215))), J, rf_w r, sh_w N, n))))))) ∧
        (¬ (¬ x1 = (-1 : Int32)) →
        ((x2 < 0 → (Q (.inr 1) (I, J, rf_w r, sh_w N, 0))) ∧
          (¬ (x2 < 0) →
          (((I (r + 1) 1) ≤ x2 → (Q (.inr 1) (I, J, rf_w r, sh_w N, 0))) ∧
            (¬ ((I (r + 1) 1) ≤ x2) →
            (vp_in x2 16 ∧ Q (.inl none) ((mc_up I ((r + 1) + 1) x2.toNatClampNeg (x3 &&& (Int32.ofNat 16777215))), J, rf_w r, sh_w N, n)))))))) :
    mc_WP (2, 5, [.ref 10, .int x1, .int x2, .int x3, .null], [], (I, J, rf_w r, sh_w N, n), (1, 6)) Q := by
  exact (mc_WP.run (mc_adjs _) 3 (And.intro rfl (And.intro (by decide) (And.intro (by decide) (mc_inl (mc_WP.run (mc_adjs _) 3 (And.intro (fun c52 => (by have g3 := (h.1 c52); have e4 : rf_w r r 1 = (r + 3) := (wd_R (r := r) (N := N) hr).2.2.1; have s5 : sh_w N (rf_w r r 1) = (3, 4) := (by rw [e4]; exact (wd_R (r := r) (N := N) hr).2.2.2.2.2); (try rw [← e4] at g3); have f6 : vp_in x1 4 := g3.1; have e7 : rf_w r (rf_w r r 1) x1.toNatClampNeg = (r + 4 + 4 * x1.toNatClampNeg) := (by rw [e4]; exact (wd_A (r := r) (N := N) hr f6).1); have s8 : sh_w N (rf_w r (rf_w r r 1) x1.toNatClampNeg) = (1, 4) := (by rw [e7]; exact (wd_A (r := r) (N := N) hr f6).2.1); have k9 : is_F (rf_w r (rf_w r r 1) x1.toNatClampNeg) := (by rw [e7]; exact (wd_A (r := r) (N := N) hr f6).2.2); (try rw [← e7] at g3); have e10 : rf_w r (rf_w r (rf_w r r 1) x1.toNatClampNeg) 1 = ((rf_w r (rf_w r r 1) x1.toNatClampNeg) + 2) := (wd_F (r := r) (N := N) k9).2.2.1; have s11 : sh_w N (rf_w r (rf_w r (rf_w r r 1) x1.toNatClampNeg) 1) = (1, 6) := (by rw [e10]; exact (wd_F (r := r) (N := N) k9).2.2.2.2.1); have k12 : is_P (rf_w r (rf_w r (rf_w r r 1) x1.toNatClampNeg) 1) := (by rw [e10]; exact (wd_F (r := r) (N := N) k9).2.2.2.2.2); (try rw [← e10] at g3); exact (mc_WP.run (mc_adjs _) 7 (And.intro ⟨rfl, (wd_R0 hr)⟩ (And.intro ⟨(wd_R (r := r) (N := N) hr).1, (wd_Z s5)⟩ (And.intro (wl_la s5 g3.1 (wd_Z s8)) (And.intro ⟨s8, (wd_Z s11)⟩ (mc_WP.run (mc_adjs _) 4 (And.intro s11 (And.intro (by decide) (And.intro (by decide) (mc_inl (mc_WP.run (mc_adjs _) 2 (And.intro (fun c53 => (mc_WP.run (mc_adjs _) 2 (And.intro (by decide) (mc_WP.run (mc_adjs _) 1 (And.intro (fun c => absurd c (show ¬ (¬ (0 : Int32) = 0) by decide)) (fun _ => (mc_WP.run (mc_adjs _) 1 (And.intro (by decide) (And.intro (by decide) (g3.2.1 c53)))))))))) (fun c53 => (mc_WP.run (mc_adjs _) 4 (And.intro s11 (And.intro (fun c54 => (mc_WP.run (mc_adjs _) 2 (And.intro (by decide) (mc_WP.run (mc_adjs _) 1 (And.intro (fun c => absurd c (show ¬ (¬ (0 : Int32) = 0) by decide)) (fun _ => (mc_WP.run (mc_adjs _) 1 (And.intro (by decide) (And.intro (by decide) ((g3.2.2 c53).1 c54)))))))))) (fun c54 => (mc_WP.run (mc_adjs _) 2 (mc_WP.run (mc_adjs _) 1 (And.intro (by decide) (mc_WP.run (mc_adjs _) 1 (And.intro (fun _ => (mc_WP.run (mc_adjs _) 4 (And.intro s11 (And.intro (by decide) (And.intro (by decide) (mc_inl (by have g26 := ((g3.2.2 c53).2 c54); have e27 : rf_w r (rf_w r (rf_w r (rf_w r r 1) x1.toNatClampNeg) 1) 0 = ((rf_w r (rf_w r (rf_w r r 1) x1.toNatClampNeg) 1) + 1) := (wd_P (r := r) (N := N) k12).2.1; have s28 : sh_w N (rf_w r (rf_w r (rf_w r (rf_w r r 1) x1.toNatClampNeg) 1) 0) = (2, 16) := (by rw [e27]; exact (wd_P (r := r) (N := N) k12).2.2); have ts28 : 10 ≤ rf_w r (rf_w r (rf_w r (rf_w r r 1) x1.toNatClampNeg) 1) 0 := (by rw [e27]; exact wd_tP k12 _); (try rw [← e27] at g26); exact (mc_WP.run (mc_adjs _) 8 (And.intro ⟨s11, (wd_Z s28)⟩ (And.intro (wl_st s28 g26.1 ts28) (mc_WP.run (mc_adjs _) 1 g26.2))))))))))) (fun c => absurd (show ¬ (1 : Int32) = 0 by decide) c))))))))))))))))))))))))) (fun c52 => (by have g30 := (h.2 c52); have e31 : rf_w r r 0 = (r + 1) := (wd_R (r := r) (N := N) hr).2.1; have s32 : sh_w N (rf_w r r 0) = (1, 6) := (by rw [e31]; exact (wd_R (r := r) (N := N) hr).2.2.2.1); have k33 : is_P (rf_w r r 0) := (by rw [e31]; exact (wd_R (r := r) (N := N) hr).2.2.2.2.1); (try rw [← e31] at g30); exact (mc_WP.run (mc_adjs _) 4 (And.intro ⟨rfl, (wd_R0 hr)⟩ (And.intro ⟨(wd_R (r := r) (N := N) hr).1, (wd_Z s32)⟩ (mc_WP.run (mc_adjs _) 1 (mc_WP.run (mc_adjs _) 4 (And.intro s32 (And.intro (by decide) (And.intro (by decide) (mc_inl (mc_WP.run (mc_adjs _) 2 (And.intro (fun c55 => (mc_WP.run (mc_adjs _) 2 (And.intro (by decide) (mc_WP.run (mc_adjs _) 1 (And.intro (fun c => absurd c (show ¬ (¬ (0 : Int32) = 0) by decide)) (fun _ => (mc_WP.run (mc_adjs _) 1 (And.intro (by decide) (And.intro (by decide) (g30.1 c55)))))))))) (fun c55 => (mc_WP.run (mc_adjs _) 4 (And.intro s32 (And.intro (fun c56 => (mc_WP.run (mc_adjs _) 2 (And.intro (by decide) (mc_WP.run (mc_adjs _) 1 (And.intro (fun c => absurd c (show ¬ (¬ (0 : Int32) = 0) by decide)) (fun _ => (mc_WP.run (mc_adjs _) 1 (And.intro (by decide) (And.intro (by decide) ((g30.2 c55).1 c56)))))))))) (fun c56 => (mc_WP.run (mc_adjs _) 2 (mc_WP.run (mc_adjs _) 1 (And.intro (by decide) (mc_WP.run (mc_adjs _) 1 (And.intro (fun _ => (mc_WP.run (mc_adjs _) 4 (And.intro s32 (And.intro (by decide) (And.intro (by decide) (mc_inl (by have g48 := ((g30.2 c55).2 c56); have e49 : rf_w r (rf_w r r 0) 0 = ((rf_w r r 0) + 1) := (wd_P (r := r) (N := N) k33).2.1; have s50 : sh_w N (rf_w r (rf_w r r 0) 0) = (2, 16) := (by rw [e49]; exact (wd_P (r := r) (N := N) k33).2.2); have ts50 : 10 ≤ rf_w r (rf_w r r 0) 0 := (by rw [e49]; exact wd_tP k33 _); (try rw [← e49] at g48); exact (mc_WP.run (mc_adjs _) 8 (And.intro ⟨s32, (wd_Z s50)⟩ (And.intro (wl_st s50 g48.1 ts50) (mc_WP.run (mc_adjs _) 1 g48.2))))))))))) (fun c => absurd (show ¬ (1 : Int32) = 0 by decide) c)))))))))))))))))))))))))))))))
-- 3 frame(IIII)I inl<=6
set_option maxRecDepth 20000 in
theorem bk_3_0 {x1 : Int32} {x2 : Int32} {x3 : Int32} {x4 : Int32} (hr : is_R r)
    (h : (x1 < (0 : Int32) → (Q (.inr 2) (I, J, rf_w r, sh_w N, 0))) ∧
        (¬ (x1 < (0 : Int32)) →
        (((7 : Int32) < x1 → (Q (.inr 2) (I, J, rf_w r, sh_w N, 0))) ∧
          (¬ ((7 : Int32) < x1) →
          ((x2 < (0 : Int32) → (Q (.inr 2) (I, J, rf_w r, sh_w N, 0))) ∧
            (¬ (x2 < (0 : Int32)) →
            (((7 : Int32) < x2 → (Q (.inr 2) (I, J, rf_w r, sh_w N, 0))) ∧
              (¬ ((7 : Int32) < x2) →
              ((x3 < (1 : Int32) → (Q (.inr 2) (I, J, rf_w r, sh_w N, 0))) ∧
                (¬ (x3 < (1 : Int32)) →
                (((8 : Int32) < x3 → (Q (.inr 2) (I, J, rf_w r, sh_w N, 0))) ∧
                  (¬ ((8 : Int32) < x3) →
                  ((x4 < (1 : Int32) → (Q (.inr 2) (I, J, rf_w r, sh_w N, 0))) ∧
                    (¬ (x4 < (1 : Int32)) →
                    (((8 : Int32) < x4 → (Q (.inr 2) (I, J, rf_w r, sh_w N, 0))) ∧
                      (¬ ((8 : Int32) < x4) →
                      (((I r 4) < (4 : Int32) →
                        (∃ R : mc_Q, mc_WP (mc_en 190 [.ref r, .int x1, .int x2, .int x3, .int x4] (I, J, rf_w r, sh_w N, n)) R ∧ (∀ v t, R (.inl v) t → mc_WP (3, 67, [.ref 10, .int x1, .int x2, .int x3, .int x4], v.toList ++ [], t, (1, 6)) Q) ∧ (∀ k t, R (.inr k) t → Q (.inr k) t))) ∧
                        (¬ ((I r 4) < (4 : Int32)) → (Q (.inr 3) (I, J, rf_w r, sh_w N, 0)))))))))))))))))))) :
    mc_WP (mc_en 3 [.ref 10, .int x1, .int x2, .int x3, .int x4] (I, J, rf_w r, sh_w N, n)) Q := by
  exact (mc_WP.run (mc_adjs _) 4 (And.intro (by decide) (And.intro (by decide) (mc_inl (mc_WP.run (mc_adjs _) 3 (And.intro (fun c54 => (mc_WP.run (mc_adjs _) 2 (And.intro (by decide) (mc_WP.run (mc_adjs _) 1 (And.intro (fun _ => (mc_WP.run (mc_adjs _) 1 (And.intro (by decide) (And.intro (by decide) (h.1 c54))))) (fun c => absurd (show (0 : Int32) = 0 by decide) c)))))) (fun c54 => (mc_WP.run (mc_adjs _) 3 (And.intro (fun c55 => (mc_WP.run (mc_adjs _) 2 (And.intro (by decide) (mc_WP.run (mc_adjs _) 1 (And.intro (fun _ => (mc_WP.run (mc_adjs _) 1 (And.intro (by decide) (And.intro (by decide) ((h.2 c54).1 c55))))) (fun c => absurd (show (0 : Int32) = 0 by decide) c)))))) (fun c55 => (mc_WP.run (mc_adjs _) 2 (mc_WP.run (mc_adjs _) 1 (And.intro (by decide) (mc_WP.run (mc_adjs _) 1 (And.intro (fun c => absurd c (show ¬ ((1 : Int32) = 0) by decide)) (fun _ => (mc_WP.run (mc_adjs _) 4 (And.intro (by decide) (And.intro (by decide) (mc_inl (mc_WP.run (mc_adjs _) 3 (And.intro (fun c56 => (mc_WP.run (mc_adjs _) 2 (And.intro (by decide) (mc_WP.run (mc_adjs _) 1 (And.intro (fun _ => (mc_WP.run (mc_adjs _) 1 (And.intro (by decide) (And.intro (by decide) (((h.2 c54).2 c55).1 c56))))) (fun c => absurd (show (0 : Int32) = 0 by decide) c)))))) (fun c56 => (mc_WP.run (mc_adjs _) 3 (And.intro (fun c57 => (mc_WP.run (mc_adjs _) 2 (And.intro (by decide) (mc_WP.run (mc_adjs _) 1 (And.intro (fun _ => (mc_WP.run (mc_adjs _) 1 (And.intro (by decide) (And.intro (by decide) ((((h.2 c54).2 c55).2 c56).1 c57))))) (fun c => absurd (show (0 : Int32) = 0 by decide) c)))))) (fun c57 => (mc_WP.run (mc_adjs _) 2 (mc_WP.run (mc_adjs _) 1 (And.intro (by decide) (mc_WP.run (mc_adjs _) 1 (And.intro (fun c => absurd c (show ¬ ((1 : Int32) = 0) by decide)) (fun _ => (mc_WP.run (mc_adjs _) 4 (And.intro (by decide) (And.intro (by decide) (mc_inl (mc_WP.run (mc_adjs _) 3 (And.intro (fun c58 => (mc_WP.run (mc_adjs _) 2 (And.intro (by decide) (mc_WP.run (mc_adjs _) 1 (And.intro (fun _ => (mc_WP.run (mc_adjs _) 1 (And.intro (by decide) (And.intro (by decide) (((((h.2 c54).2 c55).2 c56).2 c57).1 c58))))) (fun c => absurd (show (0 : Int32) = 0 by decide) c)))))) (fun c58 => (mc_WP.run (mc_adjs _) 3 (And.intro (fun c59 => (mc_WP.run (mc_adjs _) 2 (And.intro (by decide) (mc_WP.run (mc_adjs _) 1 (And.intro (fun _ => (mc_WP.run (mc_adjs _) 1 (And.intro (by decide) (And.intro (by decide) ((((((h.2 c54).2 c55).2 c56).2 c57).2 c58).1 c59))))) (fun c => absurd (show (0 : Int32) = 0 by decide) c)))))) (fun c59 => (mc_WP.run (mc_adjs _) 2 (mc_WP.run (mc_adjs _) 1 (And.intro (by decide) (mc_WP.run (mc_adjs _) 1 (And.intro (fun c => absurd c (show ¬ ((1 : Int32) = 0) by decide)) (fun _ => (mc_WP.run (mc_adjs _) 4 (And.intro (by decide) (And.intro (by decide) (mc_inl (mc_WP.run (mc_adjs _) 3 (And.intro (fun c60 => (mc_WP.run (mc_adjs _) 2 (And.intro (by decide) (mc_WP.run (mc_adjs _) 1 (And.intro (fun c => absurd c (show ¬ (¬ (0 : Int32) = 0) by decide)) (fun _ => (mc_WP.run (mc_adjs _) 1 (And.intro (by decide) (And.intro (by decide) (((((((h.2 c54).2 c55).2 c56).2 c57).2 c58).2 c59).1 c60)))))))))) (fun c60 => (mc_WP.run (mc_adjs _) 3 (And.intro (fun c61 => (mc_WP.run (mc_adjs _) 2 (And.intro (by decide) (mc_WP.run (mc_adjs _) 1 (And.intro (fun c => absurd c (show ¬ (¬ (0 : Int32) = 0) by decide)) (fun _ => (mc_WP.run (mc_adjs _) 1 (And.intro (by decide) (And.intro (by decide) ((((((((h.2 c54).2 c55).2 c56).2 c57).2 c58).2 c59).2 c60).1 c61)))))))))) (fun c61 => (mc_WP.run (mc_adjs _) 2 (mc_WP.run (mc_adjs _) 1 (And.intro (by decide) (mc_WP.run (mc_adjs _) 1 (And.intro (fun _ => (mc_WP.run (mc_adjs _) 2 (And.intro rfl (And.intro (by decide) (And.intro (by decide) (mc_inl (mc_WP.run (mc_adjs _) 5 (And.intro ⟨rfl, (wd_R0 hr)⟩ (And.intro (wd_R (r := r) (N := N) hr).1 (And.intro (fun c62 => (mc_WP.run (mc_adjs _) 1 (mc_WP.run (mc_adjs _) 7 (And.intro ⟨rfl, (wd_R0 hr)⟩ (And.intro (wd_R (r := r) (N := N) hr).1 (And.intro (by decide) (And.intro (by decide) (((((((((h.2 c54).2 c55).2 c56).2 c57).2 c58).2 c59).2 c60).2 c61).1 c62)))))))) (fun c62 => (mc_WP.run (mc_adjs _) 1 (And.intro (by decide) (And.intro (by decide) (((((((((h.2 c54).2 c55).2 c56).2 c57).2 c58).2 c59).2 c60).2 c61).2 c62))))))))))))))) (fun c => absurd (show ¬ (1 : Int32) = 0 by decide) c))))))))))))))))))))))))))))))))))))))))))))))))))))))))))))))))
set_option maxRecDepth 20000 in
theorem bk_3_67 {x1 : Int32} {x2 : Int32} {x3 : Int32} {x4 : Int32} {b0 : Nat} (hr : is_R r) (hb0 : is_F b0)
    (h : Q (.inl (some (.int ((I r 4) - (1 : Int32))))) (I, J, rf_w r, sh_w N, n)) :
    mc_WP (3, 67, [.ref 10, .int x1, .int x2, .int x3, .int x4], [.ref b0], (I, J, rf_w r, sh_w N, n), (1, 6)) Q := by
  exact (mc_WP.run (mc_adjs _) 7 (And.intro ⟨rfl, (wd_R0 hr)⟩ (And.intro (wd_R (r := r) (N := N) hr).1 h)))
-- 4 pixel(IIII)V inl<=6
set_option maxRecDepth 20000 in
theorem bk_4_0 {x1 : Int32} {x2 : Int32} {x3 : Int32} {x4 : Int32}
    (h : ∃ R : mc_Q, mc_WP (mc_en 16 [.ref 10, .int x1, .int x2, .int x3] (I, J, rf_w r, sh_w N, n)) R ∧ (∀ v t, R (.inl v) t → mc_WP (4, 7, [.ref 10, .int x1, .int x2, .int x3, .int x4, .null], v.toList ++ [], t, (2, 12)) Q) ∧ (∀ k t, R (.inr k) t → Q (.inr k) t)) :
    mc_WP (mc_en 4 [.ref 10, .int x1, .int x2, .int x3, .int x4] (I, J, rf_w r, sh_w N, n)) Q := by
  exact (mc_WP.run (mc_adjs _) 5 (And.intro rfl (And.intro (by decide) (And.intro (by decide) h))))
set_option maxRecDepth 20000 in
theorem bk_4_7 {x1 : Int32} {x2 : Int32} {x3 : Int32} {x4 : Int32} (hr : is_R r)
    (h : vp_in x1 4 ∧ ((I ((r + 4 + 4 * x1.toNatClampNeg) + 2) 1) ≤ 0 →
        ((x4 < 0 → (Q (.inr 2) (I, J, rf_w r, sh_w N, 0))) ∧
          (¬ (x4 < 0) →
          (((I (r + 1) 1) ≤ x4 → (Q (.inr 2) (I, J, rf_w r, sh_w N, 0))) ∧
            (¬ ((I (r + 1) 1) ≤ x4) →
            (vp_in ((x3 * (8 : Int32)) + x2) 64 ∧ Q (.inl none) ((mc_up I ((r + 4 + 4 * x1.toNatClampNeg) + 1) ((x3 * (8 : Int32)) + x2).toNatClampNeg x4), J, rf_w r, sh_w N, n))))))) ∧
        (¬ ((I ((r + 4 + 4 * x1.toNatClampNeg) + 2) 1) ≤ 0) →
        ((x4 < 0 → (Q (.inr 2) (I, J, rf_w r, sh_w N, 0))) ∧
          (¬ (x4 < 0) →
          (((I ((r + 4 + 4 * x1.toNatClampNeg) + 2) 1) ≤ x4 → (Q (.inr 2) (I, J, rf_w r, sh_w N, 0))) ∧
            (¬ ((I ((r + 4 + 4 * x1.toNatClampNeg) + 2) 1) ≤ x4) →
            (vp_in ((x3 * (8 : Int32)) + x2) 64 ∧ Q (.inl none) ((mc_up I ((r + 4 + 4 * x1.toNatClampNeg) + 1) ((x3 * (8 : Int32)) + x2).toNatClampNeg x4), J, rf_w r, sh_w N, n)))))))) :
    mc_WP (4, 7, [.ref 10, .int x1, .int x2, .int x3, .int x4, .null], [], (I, J, rf_w r, sh_w N, n), (2, 12)) Q := by
  exact (by have g1 := h; have e2 : rf_w r r 1 = (r + 3) := (wd_R (r := r) (N := N) hr).2.2.1; have s3 : sh_w N (rf_w r r 1) = (3, 4) := (by rw [e2]; exact (wd_R (r := r) (N := N) hr).2.2.2.2.2); (try rw [← e2] at g1); have f4 : vp_in x1 4 := g1.1; have e5 : rf_w r (rf_w r r 1) x1.toNatClampNeg = (r + 4 + 4 * x1.toNatClampNeg) := (by rw [e2]; exact (wd_A (r := r) (N := N) hr f4).1); have s6 : sh_w N (rf_w r (rf_w r r 1) x1.toNatClampNeg) = (1, 4) := (by rw [e5]; exact (wd_A (r := r) (N := N) hr f4).2.1); have k7 : is_F (rf_w r (rf_w r r 1) x1.toNatClampNeg) := (by rw [e5]; exact (wd_A (r := r) (N := N) hr f4).2.2); (try rw [← e5] at g1); exact (mc_WP.run (mc_adjs _) 10 (And.intro ⟨rfl, (wd_R0 hr)⟩ (And.intro ⟨(wd_R (r := r) (N := N) hr).1, (wd_Z s3)⟩ (And.intro (wl_la s3 g1.1 (wd_Z s6)) (And.intro ⟨rfl, (wd_R0 hr)⟩ (And.intro (wd_R (r := r) (N := N) hr).1 (And.intro (by decide) (And.intro (by decide) (mc_inl (by have g8 := g1.2; have e9 : rf_w r (rf_w r (rf_w r r 1) x1.toNatClampNeg) 1 = ((rf_w r (rf_w r r 1) x1.toNatClampNeg) + 2) := (wd_F (r := r) (N := N) k7).2.2.1; have s10 : sh_w N (rf_w r (rf_w r (rf_w r r 1) x1.toNatClampNeg) 1) = (1, 6) := (by rw [e9]; exact (wd_F (r := r) (N := N) k7).2.2.2.2.1); have k11 : is_P (rf_w r (rf_w r (rf_w r r 1) x1.toNatClampNeg) 1) := (by rw [e9]; exact (wd_F (r := r) (N := N) k7).2.2.2.2.2); (try rw [← e9] at g8); exact (mc_WP.run (mc_adjs _) 4 (And.intro ⟨s6, (wd_Z s10)⟩ (And.intro s10 (And.intro (fun c52 => (by have g12 := (g8.1 c52); have e13 : rf_w r r 0 = (r + 1) := (wd_R (r := r) (N := N) hr).2.1; have s14 : sh_w N (rf_w r r 0) = (1, 6) := (by rw [e13]; exact (wd_R (r := r) (N := N) hr).2.2.2.1); have k15 : is_P (rf_w r r 0) := (by rw [e13]; exact (wd_R (r := r) (N := N) hr).2.2.2.2.1); (try rw [← e13] at g12); exact (mc_WP.run (mc_adjs _) 3 (And.intro ⟨(wd_R (r := r) (N := N) hr).1, (wd_Z s14)⟩ (mc_WP.run (mc_adjs _) 2 (And.intro s14 (And.intro (by decide) (And.intro (by decide) (mc_inl (mc_WP.run (mc_adjs _) 2 (And.intro (fun c53 => (mc_WP.run (mc_adjs _) 2 (And.intro (by decide) (mc_WP.run (mc_adjs _) 1 (And.intro (fun c => absurd c (show ¬ (¬ (0 : Int32) = 0) by decide)) (fun _ => (mc_WP.run (mc_adjs _) 1 (And.intro (by decide) (And.intro (by decide) (g12.1 c53)))))))))) (fun c53 => (mc_WP.run (mc_adjs _) 4 (And.intro s14 (And.intro (fun c54 => (mc_WP.run (mc_adjs _) 2 (And.intro (by decide) (mc_WP.run (mc_adjs _) 1 (And.intro (fun c => absurd c (show ¬ (¬ (0 : Int32) = 0) by decide)) (fun _ => (mc_WP.run (mc_adjs _) 1 (And.intro (by decide) (And.intro (by decide) ((g12.2 c53).1 c54)))))))))) (fun c54 => (mc_WP.run (mc_adjs _) 2 (mc_WP.run (mc_adjs _) 1 (And.intro (by decide) (mc_WP.run (mc_adjs _) 1 (And.intro (fun _ => (by have g28 := ((g12.2 c53).2 c54); have e29 : rf_w r (rf_w r (rf_w r r 1) x1.toNatClampNeg) 0 = ((rf_w r (rf_w r r 1) x1.toNatClampNeg) + 1) := (wd_F (r := r) (N := N) k7).2.1; have s30 : sh_w N (rf_w r (rf_w r (rf_w r r 1) x1.toNatClampNeg) 0) = (2, 64) := (by rw [e29]; exact (wd_F (r := r) (N := N) k7).2.2.2.1); have ts30 : 10 ≤ rf_w r (rf_w r (rf_w r r 1) x1.toNatClampNeg) 0 := (by rw [e29]; exact wd_tF k7 _); (try rw [← e29] at g28); exact (mc_WP.run (mc_adjs _) 5 (And.intro ⟨s6, (wd_Z s30)⟩ (And.intro (by decide) (And.intro (by decide) (mc_inl (mc_WP.run (mc_adjs _) 6 (mc_WP.run (mc_adjs _) 3 (And.intro (wl_st s30 g28.1 ts30) g28.2)))))))))) (fun c => absurd (show ¬ (1 : Int32) = 0 by decide) c)))))))))))))))))))))) (fun c52 => (mc_WP.run (mc_adjs _) 3 (And.intro ⟨s6, (wd_Z s10)⟩ (mc_WP.run (mc_adjs _) 1 (mc_WP.run (mc_adjs _) 2 (And.intro s10 (And.intro (by decide) (And.intro (by decide) (mc_inl (mc_WP.run (mc_adjs _) 2 (And.intro (fun c55 => (mc_WP.run (mc_adjs _) 2 (And.intro (by decide) (mc_WP.run (mc_adjs _) 1 (And.intro (fun c => absurd c (show ¬ (¬ (0 : Int32) = 0) by decide)) (fun _ => (mc_WP.run (mc_adjs _) 1 (And.intro (by decide) (And.intro (by decide) ((g8.2 c52).1 c55)))))))))) (fun c55 => (mc_WP.run (mc_adjs _) 4 (And.intro s10 (And.intro (fun c56 => (mc_WP.run (mc_adjs _) 2 (And.intro (by decide) (mc_WP.run (mc_adjs _) 1 (And.intro (fun c => absurd c (show ¬ (¬ (0 : Int32) = 0) by decide)) (fun _ => (mc_WP.run (mc_adjs _) 1 (And.intro (by decide) (And.intro (by decide) (((g8.2 c52).2 c55).1 c56)))))))))) (fun c56 => (mc_WP.run (mc_adjs _) 2 (mc_WP.run (mc_adjs _) 1 (And.intro (by decide) (mc_WP.run (mc_adjs _) 1 (And.intro (fun _ => (by have g47 := (((g8.2 c52).2 c55).2 c56); have e48 : rf_w r (rf_w r (rf_w r r 1) x1.toNatClampNeg) 0 = ((rf_w r (rf_w r r 1) x1.toNatClampNeg) + 1) := (wd_F (r := r) (N := N) k7).2.1; have s49 : sh_w N (rf_w r (rf_w r (rf_w r r 1) x1.toNatClampNeg) 0) = (2, 64) := (by rw [e48]; exact (wd_F (r := r) (N := N) k7).2.2.2.1); have ts49 : 10 ≤ rf_w r (rf_w r (rf_w r r 1) x1.toNatClampNeg) 0 := (by rw [e48]; exact wd_tF k7 _); (try rw [← e48] at g47); exact (mc_WP.run (mc_adjs _) 5 (And.intro ⟨s6, (wd_Z s49)⟩ (And.intro (by decide) (And.intro (by decide) (mc_inl (mc_WP.run (mc_adjs _) 6 (mc_WP.run (mc_adjs _) 3 (And.intro (wl_st s49 g47.1 ts49) g47.2)))))))))) (fun c => absurd (show ¬ (1 : Int32) = 0 by decide) c)))))))))))))))))))))))))))))))))))))
-- 5 set(IIIIZ)V inl<=1
set_option maxRecDepth 20000 in
theorem bk_5_0 {x1 : Int32} {x2 : Int32} {x3 : Int32} {x4 : Int32} {x5 : Int32}
    (h : ∃ R : mc_Q, mc_WP (mc_en 14 [.ref 10, .int x1] (I, J, rf_w r, sh_w N, n)) R ∧ (∀ v t, R (.inl v) t → mc_WP (5, 5, [.ref 10, .int x1, .int x2, .int x3, .int x4, .int x5, .null], v.toList ++ [], t, (1, 6)) Q) ∧ (∀ k t, R (.inr k) t → Q (.inr k) t)) :
    mc_WP (mc_en 5 [.ref 10, .int x1, .int x2, .int x3, .int x4, .int x5] (I, J, rf_w r, sh_w N, n)) Q := by
  exact (mc_WP.run (mc_adjs _) 3 (And.intro rfl (And.intro (by decide) (And.intro (by decide) h))))
set_option maxRecDepth 20000 in
theorem bk_5_5 {x1 : Int32} {x2 : Int32} {x3 : Int32} {x4 : Int32} {x5 : Int32} (hr : is_R r)
    (h : vp_in x1 4 ∧ ∃ R : mc_Q, mc_WP (mc_en 51 [.int x2, .int (0 : Int32), .int (3 : Int32)] (I, J, rf_w r, sh_w N, n)) R ∧ (∀ v t, R (.inl v) t → mc_WP (5, 22, [.ref 10, .int x1, .int x2, .int x3, .int x4, .int x5, .ref (r + 4 + 4 * x1.toNatClampNeg)], v.toList ++ [], t, (1, 6)) Q) ∧ (∀ k t, R (.inr k) t → Q (.inr k) t)) :
    mc_WP (5, 5, [.ref 10, .int x1, .int x2, .int x3, .int x4, .int x5, .null], [], (I, J, rf_w r, sh_w N, n), (1, 6)) Q := by
  exact (by have g1 := h; have e2 : rf_w r r 1 = (r + 3) := (wd_R (r := r) (N := N) hr).2.2.1; have s3 : sh_w N (rf_w r r 1) = (3, 4) := (by rw [e2]; exact (wd_R (r := r) (N := N) hr).2.2.2.2.2); (try rw [← e2] at g1); have f4 : vp_in x1 4 := g1.1; have e5 : rf_w r (rf_w r r 1) x1.toNatClampNeg = (r + 4 + 4 * x1.toNatClampNeg) := (by rw [e2]; exact (wd_A (r := r) (N := N) hr f4).1); have s6 : sh_w N (rf_w r (rf_w r r 1) x1.toNatClampNeg) = (1, 4) := (by rw [e5]; exact (wd_A (r := r) (N := N) hr f4).2.1); have k7 : is_F (rf_w r (rf_w r r 1) x1.toNatClampNeg) := (by rw [e5]; exact (wd_A (r := r) (N := N) hr f4).2.2); (try rw [← e5] at g1); exact (mc_WP.run (mc_adjs _) 10 (And.intro ⟨rfl, (wd_R0 hr)⟩ (And.intro ⟨(wd_R (r := r) (N := N) hr).1, (wd_Z s3)⟩ (And.intro (wl_la s3 g1.1 (wd_Z s6)) (And.intro (by decide) (And.intro (by decide) g1.2)))))))
set_option maxRecDepth 20000 in
theorem bk_5_22 {x1 : Int32} {x2 : Int32} {x3 : Int32} {x4 : Int32} {x5 : Int32} {a6 : Nat} {y0 : Int32} (ha6 : is_F a6)
    (h : (y0 = 0 → (Q (.inr 2) (I, J, rf_w r, sh_w N, 0))) ∧
        (¬ (y0 = 0) →
        (∃ R : mc_Q, mc_WP (mc_en 51 [.int x3, .int (0 : Int32), .int (255 : Int32)] (I, J, rf_w r, sh_w N, n)) R ∧ (∀ v t, R (.inl v) t → mc_WP (5, 33, [.ref 10, .int x1, .int x2, .int x3, .int x4, .int x5, .ref a6], v.toList ++ [], t, (1, 6)) Q) ∧ (∀ k t, R (.inr k) t → Q (.inr k) t)))) :
    mc_WP (5, 22, [.ref 10, .int x1, .int x2, .int x3, .int x4, .int x5, .ref a6], [.int y0], (I, J, rf_w r, sh_w N, n), (1, 6)) Q := by
  exact (mc_WP.run (mc_adjs _) 1 (And.intro (fun c4 => (mc_WP.run (mc_adjs _) 1 (And.intro (by decide) (And.intro (by decide) (h.1 c4))))) (fun c4 => (mc_WP.run (mc_adjs _) 4 (And.intro (by decide) (And.intro (by decide) (h.2 c4)))))))
set_option maxRecDepth 20000 in
theorem bk_5_33 {x1 : Int32} {x2 : Int32} {x3 : Int32} {x4 : Int32} {x5 : Int32} {a6 : Nat} {y0 : Int32} (hr : is_R r) (ha6 : is_F a6)
    (h : (y0 = 0 → (Q (.inr 2) (I, J, rf_w r, sh_w N, 0))) ∧
        (¬ (y0 = 0) →
        ((x4 = (-1 : Int32) →
          ((x5 = 0 ∨ x5 = 1) ∧ Q (.inl none) ((mc_up (mc_up (mc_up (mc_up I a6 6 x2) a6 7 x3) a6 8 x4) a6 9 x5), J, rf_w r, sh_w N, n))) ∧
          (¬ (x4 = (-1 : Int32)) →
          (∃ R : mc_Q, mc_WP (mc_en 191 [.ref r, .ref a6] (I, J, rf_w r, sh_w N, n)) R ∧ (∀ v t, R (.inl v) t → mc_WP (5, 51, [.ref 10, .int x1, .int x2, .int x3, .int x4, .int x5, .ref a6], v.toList ++ [], t, (1, 6)) Q) ∧ (∀ k t, R (.inr k) t → Q (.inr k) t)))))) :
    mc_WP (5, 33, [.ref 10, .int x1, .int x2, .int x3, .int x4, .int x5, .ref a6], [.int y0], (I, J, rf_w r, sh_w N, n), (1, 6)) Q := by
  exact (mc_WP.run (mc_adjs _) 1 (And.intro (fun c6 => (mc_WP.run (mc_adjs _) 1 (And.intro (by decide) (And.intro (by decide) (h.1 c6))))) (fun c6 => (mc_WP.run (mc_adjs _) 3 (And.intro (fun c7 => (mc_WP.run (mc_adjs _) 13 (And.intro (wd_F (r := r) (N := N) ha6).1 (And.intro (wd_F (r := r) (N := N) ha6).1 (And.intro (wd_F (r := r) (N := N) ha6).1 (And.intro ⟨(wd_F (r := r) (N := N) ha6).1, ((h.2 c6).1 c7).1⟩ ((h.2 c6).1 c7).2)))))) (fun c7 => (mc_WP.run (mc_adjs _) 4 (And.intro ⟨rfl, (wd_R0 hr)⟩ (And.intro (wd_R (r := r) (N := N) hr).1 (And.intro (by decide) (And.intro (by decide) ((h.2 c6).2 c7))))))))))))
set_option maxRecDepth 20000 in
theorem bk_5_51 {x1 : Int32} {x2 : Int32} {x3 : Int32} {x4 : Int32} {x5 : Int32} {a6 : Nat} {b0 : Nat} (ha6 : is_F a6) (hb0 : is_P b0)
    (h : ∃ R : mc_Q, mc_WP (mc_en 154 [.ref b0, .int x4] (I, J, rf_w r, sh_w N, n)) R ∧ (∀ v t, R (.inl v) t → mc_WP (5, 56, [.ref 10, .int x1, .int x2, .int x3, .int x4, .int x5, .ref a6], v.toList ++ [], t, (1, 6)) Q) ∧ (∀ k t, R (.inr k) t → Q (.inr k) t)) :
    mc_WP (5, 51, [.ref 10, .int x1, .int x2, .int x3, .int x4, .int x5, .ref a6], [.ref b0], (I, J, rf_w r, sh_w N, n), (1, 6)) Q := by
  exact (mc_WP.run (mc_adjs _) 2 (And.intro (wd_P (r := r) (N := N) hb0).1 (And.intro (by decide) (And.intro (by decide) h))))
set_option maxRecDepth 20000 in
theorem bk_5_56 {x1 : Int32} {x2 : Int32} {x3 : Int32} {x4 : Int32} {x5 : Int32} {a6 : Nat} {y0 : Int32} (ha6 : is_F a6)
    (h : (¬ y0 = 0 →
        ((x5 = 0 ∨ x5 = 1) ∧ Q (.inl none) ((mc_up (mc_up (mc_up (mc_up I a6 6 x2) a6 7 x3) a6 8 x4) a6 9 x5), J, rf_w r, sh_w N, n))) ∧
        (¬ (¬ y0 = 0) → (Q (.inr 2) (I, J, rf_w r, sh_w N, 0)))) :
    mc_WP (5, 56, [.ref 10, .int x1, .int x2, .int x3, .int x4, .int x5, .ref a6], [.int y0], (I, J, rf_w r, sh_w N, n), (1, 6)) Q := by
  exact (mc_WP.run (mc_adjs _) 1 (And.intro (fun c4 => (mc_WP.run (mc_adjs _) 13 (And.intro (wd_F (r := r) (N := N) ha6).1 (And.intro (wd_F (r := r) (N := N) ha6).1 (And.intro (wd_F (r := r) (N := N) ha6).1 (And.intro ⟨(wd_F (r := r) (N := N) ha6).1, (h.1 c4).1⟩ (h.1 c4).2)))))) (fun c4 => (mc_WP.run (mc_adjs _) 1 (And.intro (by decide) (And.intro (by decide) (h.2 c4)))))))
-- 6 get(II)I inl<=6
set_option maxRecDepth 20000 in
theorem bk_6_0 {x1 : Int32} {x2 : Int32}
    (h : ∃ R : mc_Q, mc_WP (mc_en 15 [.ref 10, .int x1] (I, J, rf_w r, sh_w N, n)) R ∧ (∀ v t, R (.inl v) t → mc_WP (6, 5, [.ref 10, .int x1, .int x2], v.toList ++ [], t, (1, 6)) Q) ∧ (∀ k t, R (.inr k) t → Q (.inr k) t)) :
    mc_WP (mc_en 6 [.ref 10, .int x1, .int x2] (I, J, rf_w r, sh_w N, n)) Q := by
  exact (mc_WP.run (mc_adjs _) 3 (And.intro rfl (And.intro (by decide) (And.intro (by decide) h))))
set_option maxRecDepth 20000 in
theorem bk_6_5 {x1 : Int32} {x2 : Int32} (hr : is_R r)
    (h : (x2 < (0 : Int32) → (Q (.inr 1) (I, J, rf_w r, sh_w N, 0))) ∧
        (¬ (x2 < (0 : Int32)) →
        (((8 : Int32) < x2 → (Q (.inr 1) (I, J, rf_w r, sh_w N, 0))) ∧
          (¬ ((8 : Int32) < x2) →
          ((¬ x1 = (-1 : Int32) →
            (vp_in x1 4 ∧ ∃ R : mc_Q, mc_WP (mc_en 142 [.ref (r + 4 + 4 * x1.toNatClampNeg), .int x2] (I, J, rf_w r, sh_w N, n)) R ∧ (∀ v t, R (.inl v) t → mc_WP (6, 54, [.ref 10, .int x1, .int x2], v.toList ++ [], t, (1, 6)) Q) ∧ (∀ k t, R (.inr k) t → Q (.inr k) t))) ∧
            (¬ (¬ x1 = (-1 : Int32)) →
            ((x2.toInt = 2 → (mc_WP (6, 54, [.ref 10, .int x1, .int x2], [.int (I r 2)], (I, J, rf_w r, sh_w N, n), (1, 6)) Q)) ∧
              (¬ x2.toInt = 2 → ((x2.toInt = 3 → (mc_WP (6, 54, [.ref 10, .int x1, .int x2], [.int (I r 3)], (I, J, rf_w r, sh_w N, n), (1, 6)) Q)) ∧
              (¬ x2.toInt = 3 → ((x2.toInt = 4 → (mc_WP (6, 54, [.ref 10, .int x1, .int x2], [.int (I (r + 1) 1)], (I, J, rf_w r, sh_w N, n), (1, 6)) Q)) ∧
              (¬ x2.toInt = 4 → (mc_WP (6, 54, [.ref 10, .int x1, .int x2], [.int (0 : Int32)], (I, J, rf_w r, sh_w N, n), (1, 6)) Q))))))))))))) :
    mc_WP (6, 5, [.ref 10, .int x1, .int x2], [], (I, J, rf_w r, sh_w N, n), (1, 6)) Q := by
  exact (mc_WP.run (mc_adjs _) 4 (And.intro (by decide) (And.intro (by decide) (mc_inl (mc_WP.run (mc_adjs _) 3 (And.intro (fun c34 => (mc_WP.run (mc_adjs _) 2 (And.intro (by decide) (mc_WP.run (mc_adjs _) 1 (And.intro (fun c => absurd c (show ¬ (¬ (0 : Int32) = 0) by decide)) (fun _ => (mc_WP.run (mc_adjs _) 1 (And.intro (by decide) (And.intro (by decide) (h.1 c34)))))))))) (fun c34 => (mc_WP.run (mc_adjs _) 3 (And.intro (fun c35 => (mc_WP.run (mc_adjs _) 2 (And.intro (by decide) (mc_WP.run (mc_adjs _) 1 (And.intro (fun c => absurd c (show ¬ (¬ (0 : Int32) = 0) by decide)) (fun _ => (mc_WP.run (mc_adjs _) 1 (And.intro (by decide) (And.intro (by decide) ((h.2 c34).1 c35)))))))))) (fun c35 => (mc_WP.run (mc_adjs _) 2 (mc_WP.run (mc_adjs _) 1 (And.intro (by decide) (mc_WP.run (mc_adjs _) 1 (And.intro (fun _ => (mc_WP.run (mc_adjs _) 3 (And.intro (fun c36 => (by have g14 := (((h.2 c34).2 c35).1 c36); have e15 : rf_w r r 1 = (r + 3) := (wd_R (r := r) (N := N) hr).2.2.1; have s16 : sh_w N (rf_w r r 1) = (3, 4) := (by rw [e15]; exact (wd_R (r := r) (N := N) hr).2.2.2.2.2); (try rw [← e15] at g14); have f17 : vp_in x1 4 := g14.1; have e18 : rf_w r (rf_w r r 1) x1.toNatClampNeg = (r + 4 + 4 * x1.toNatClampNeg) := (by rw [e15]; exact (wd_A (r := r) (N := N) hr f17).1); have s19 : sh_w N (rf_w r (rf_w r r 1) x1.toNatClampNeg) = (1, 4) := (by rw [e18]; exact (wd_A (r := r) (N := N) hr f17).2.1); have k20 : is_F (rf_w r (rf_w r r 1) x1.toNatClampNeg) := (by rw [e18]; exact (wd_A (r := r) (N := N) hr f17).2.2); (try rw [← e18] at g14); exact (mc_WP.run (mc_adjs _) 7 (And.intro ⟨rfl, (wd_R0 hr)⟩ (And.intro ⟨(wd_R (r := r) (N := N) hr).1, (wd_Z s16)⟩ (And.intro (wl_la s16 g14.1 (wd_Z s19)) (And.intro s19 (And.intro (by decide) (And.intro (by decide) g14.2))))))))) (fun c36 => (mc_WP.run (mc_adjs _) 4 (And.intro ⟨rfl, (wd_R0 hr)⟩ (And.intro (wd_R (r := r) (N := N) hr).1 (And.intro (by decide) (And.intro (by decide) (mc_inl (mc_WP.run (mc_adjs _) 2 (And.intro (fun c37 => (mc_WP.run (mc_adjs _) 3 (And.intro (wd_R (r := r) (N := N) hr).1 (mc_WP.run (mc_adjs _) 1 ((((h.2 c34).2 c35).2 c36).1 c37))))) (fun c37 => (And.intro (fun c38 => (mc_WP.run (mc_adjs _) 3 (And.intro (wd_R (r := r) (N := N) hr).1 (mc_WP.run (mc_adjs _) 1 (((((h.2 c34).2 c35).2 c36).2 c37).1 c38))))) (fun c38 => (And.intro (fun c39 => (by have g27 := ((((((h.2 c34).2 c35).2 c36).2 c37).2 c38).1 c39); have e28 : rf_w r r 0 = (r + 1) := (wd_R (r := r) (N := N) hr).2.1; have s29 : sh_w N (rf_w r r 0) = (1, 6) := (by rw [e28]; exact (wd_R (r := r) (N := N) hr).2.2.2.1); have k30 : is_P (rf_w r r 0) := (by rw [e28]; exact (wd_R (r := r) (N := N) hr).2.2.2.2.1); (try rw [← e28] at g27); exact (mc_WP.run (mc_adjs _) 4 (And.intro ⟨(wd_R (r := r) (N := N) hr).1, (wd_Z s29)⟩ (And.intro s29 (mc_WP.run (mc_adjs _) 1 g27)))))) (fun c39 => (mc_WP.run (mc_adjs _) 2 (mc_WP.run (mc_adjs _) 1 ((((((h.2 c34).2 c35).2 c36).2 c37).2 c38).2 c39)))))))))))))))))))) (fun c => absurd (show ¬ (1 : Int32) = 0 by decide) c))))))))))))))))
set_option maxRecDepth 20000 in
theorem bk_6_54 {x1 : Int32} {x2 : Int32} {y0 : Int32}
    (h : Q (.inl (some (.int y0))) (I, J, rf_w r, sh_w N, n)) :
    mc_WP (6, 54, [.ref 10, .int x1, .int x2], [.int y0], (I, J, rf_w r, sh_w N, n), (1, 6)) Q := by
  exact (mc_WP.run (mc_adjs _) 1 h)
-- 7 colourAt(II)I inl<=6
set_option maxRecDepth 20000 in
theorem bk_7_0 {x1 : Int32} {x2 : Int32}
    (h : ∃ R : mc_Q, mc_WP (mc_en 15 [.ref 10, .int x1] (I, J, rf_w r, sh_w N, n)) R ∧ (∀ v t, R (.inl v) t → mc_WP (7, 5, [.ref 10, .int x1, .int x2, .null], v.toList ++ [], t, (1, 6)) Q) ∧ (∀ k t, R (.inr k) t → Q (.inr k) t)) :
    mc_WP (mc_en 7 [.ref 10, .int x1, .int x2] (I, J, rf_w r, sh_w N, n)) Q := by
  exact (mc_WP.run (mc_adjs _) 3 (And.intro rfl (And.intro (by decide) (And.intro (by decide) h))))
set_option maxRecDepth 20000 in
theorem bk_7_5 {x1 : Int32} {x2 : Int32} (hr : is_R r)
    (h : (¬ x1 = (-1 : Int32) →
        (vp_in x1 4 ∧ ((I ((r + 4 + 4 * x1.toNatClampNeg) + 2) 1) ≤ 0 →
          ((x2 < 0 → (Q (.inr 1) (I, J, rf_w r, sh_w N, 0))) ∧
            (¬ (x2 < 0) →
            (((I (r + 1) 1) ≤ x2 → (Q (.inr 1) (I, J, rf_w r, sh_w N, 0))) ∧
              (¬ ((I (r + 1) 1) ≤ x2) →
              (vp_in x2 16 ∧ Q (.inl (some (.int (I ((r + 1) + 1) x2.toNatClampNeg)))) (I, J, rf_w r, sh_w N, n))))))) ∧
          (¬ ((I ((r + 4 + 4 * x1.toNatClampNeg) + 2) 1) ≤ 0) →
          ((x2 < 0 → (Q (.inr 1) (I, J, rf_w r, sh_w N, 0))) ∧
            (¬ (x2 < 0) →
            (((I ((r + 4 + 4 * x1.toNatClampNeg) + 2) 1) ≤ x2 → (Q (.inr 1) (I, J, rf_w r, sh_w N, 0))) ∧
              (¬ ((I ((r + 4 + 4 * x1.toNatClampNeg) + 2) 1) ≤ x2) →
              (vp_in x2 16 ∧ Q (.inl (some (.int (I (((r + 4 + 4 * x1.toNatClampNeg) + 2) + 1) x2.toNatClampNeg)))) (I, J, rf_w r, sh_w N, n))))))))) ∧
        (¬ (¬ x1 = (-1 : Int32)) →
        ((x2 < 0 → (Q (.inr 1) (I, J, rf_w r, sh_w N, 0))) ∧
          (¬ (x2 < 0) →
          (((I (r + 1) 1) ≤ x2 → (Q (.inr 1) (I, J, rf_w r, sh_w N, 0))) ∧
            (¬ ((I (r + 1) 1) ≤ x2) →
            (vp_in x2 16 ∧ Q (.inl (some (.int (I ((r + 1) + 1) x2.toNatClampNeg)))) (I, J, rf_w r, sh_w N, n)))))))) :
    mc_WP (7, 5, [.ref 10, .int x1, .int x2, .null], [], (I, J, rf_w r, sh_w N, n), (1, 6)) Q := by
  exact (mc_WP.run (mc_adjs _) 3 (And.intro (fun c68 => (by have g2 := (h.1 c68); have e3 : rf_w r r 1 = (r + 3) := (wd_R (r := r) (N := N) hr).2.2.1; have s4 : sh_w N (rf_w r r 1) = (3, 4) := (by rw [e3]; exact (wd_R (r := r) (N := N) hr).2.2.2.2.2); (try rw [← e3] at g2); have f5 : vp_in x1 4 := g2.1; have e6 : rf_w r (rf_w r r 1) x1.toNatClampNeg = (r + 4 + 4 * x1.toNatClampNeg) := (by rw [e3]; exact (wd_A (r := r) (N := N) hr f5).1); have s7 : sh_w N (rf_w r (rf_w r r 1) x1.toNatClampNeg) = (1, 4) := (by rw [e6]; exact (wd_A (r := r) (N := N) hr f5).2.1); have k8 : is_F (rf_w r (rf_w r r 1) x1.toNatClampNeg) := (by rw [e6]; exact (wd_A (r := r) (N := N) hr f5).2.2); (try rw [← e6] at g2); exact (mc_WP.run (mc_adjs _) 8 (And.intro ⟨rfl, (wd_R0 hr)⟩ (And.intro ⟨rfl, (wd_R0 hr)⟩ (And.intro ⟨(wd_R (r := r) (N := N) hr).1, (wd_Z s4)⟩ (And.intro (wl_la s4 g2.1 (wd_Z s7)) (And.intro (wd_R (r := r) (N := N) hr).1 (And.intro (by decide) (And.intro (by decide) (mc_inl (by have g9 := g2.2; have e10 : rf_w r (rf_w r (rf_w r r 1) x1.toNatClampNeg) 1 = ((rf_w r (rf_w r r 1) x1.toNatClampNeg) + 2) := (wd_F (r := r) (N := N) k8).2.2.1; have s11 : sh_w N (rf_w r (rf_w r (rf_w r r 1) x1.toNatClampNeg) 1) = (1, 6) := (by rw [e10]; exact (wd_F (r := r) (N := N) k8).2.2.2.2.1); have k12 : is_P (rf_w r (rf_w r (rf_w r r 1) x1.toNatClampNeg) 1) := (by rw [e10]; exact (wd_F (r := r) (N := N) k8).2.2.2.2.2); (try rw [← e10] at g9); exact (mc_WP.run (mc_adjs _) 4 (And.intro ⟨s7, (wd_Z s11)⟩ (And.intro s11 (And.intro (fun c69 => (by have g13 := (g9.1 c69); have e14 : rf_w r r 0 = (r + 1) := (wd_R (r := r) (N := N) hr).2.1; have s15 : sh_w N (rf_w r r 0) = (1, 6) := (by rw [e14]; exact (wd_R (r := r) (N := N) hr).2.2.2.1); have k16 : is_P (rf_w r r 0) := (by rw [e14]; exact (wd_R (r := r) (N := N) hr).2.2.2.2.1); (try rw [← e14] at g13); exact (mc_WP.run (mc_adjs _) 3 (And.intro ⟨(wd_R (r := r) (N := N) hr).1, (wd_Z s15)⟩ (mc_WP.run (mc_adjs _) 4 (And.intro s15 (And.intro (by decide) (And.intro (by decide) (mc_inl (mc_WP.run (mc_adjs _) 2 (And.intro (fun c70 => (mc_WP.run (mc_adjs _) 2 (And.intro (by decide) (mc_WP.run (mc_adjs _) 1 (And.intro (fun c => absurd c (show ¬ (¬ (0 : Int32) = 0) by decide)) (fun _ => (mc_WP.run (mc_adjs _) 1 (And.intro (by decide) (And.intro (by decide) (g13.1 c70)))))))))) (fun c70 => (mc_WP.run (mc_adjs _) 4 (And.intro s15 (And.intro (fun c71 => (mc_WP.run (mc_adjs _) 2 (And.intro (by decide) (mc_WP.run (mc_adjs _) 1 (And.intro (fun c => absurd c (show ¬ (¬ (0 : Int32) = 0) by decide)) (fun _ => (mc_WP.run (mc_adjs _) 1 (And.intro (by decide) (And.intro (by decide) ((g13.2 c70).1 c71)))))))))) (fun c71 => (mc_WP.run (mc_adjs _) 2 (mc_WP.run (mc_adjs _) 1 (And.intro (by decide) (mc_WP.run (mc_adjs _) 1 (And.intro (fun _ => (by have g29 := ((g13.2 c70).2 c71); have e30 : rf_w r (rf_w r r 0) 0 = ((rf_w r r 0) + 1) := (wd_P (r := r) (N := N) k16).2.1; have s31 : sh_w N (rf_w r (rf_w r r 0) 0) = (2, 16) := (by rw [e30]; exact (wd_P (r := r) (N := N) k16).2.2); have ts31 : 10 ≤ rf_w r (rf_w r r 0) 0 := (by rw [e30]; exact wd_tP k16 _); (try rw [← e30] at g29); exact (mc_WP.run (mc_adjs _) 5 (And.intro ⟨s15, (wd_Z s31)⟩ (And.intro (wl_ld s31 g29.1) g29.2))))) (fun c => absurd (show ¬ (1 : Int32) = 0 by decide) c)))))))))))))))))))))) (fun c69 => (mc_WP.run (mc_adjs _) 3 (And.intro ⟨s7, (wd_Z s11)⟩ (mc_WP.run (mc_adjs _) 1 (mc_WP.run (mc_adjs _) 4 (And.intro s11 (And.intro (by decide) (And.intro (by decide) (mc_inl (mc_WP.run (mc_adjs _) 2 (And.intro (fun c72 => (mc_WP.run (mc_adjs _) 2 (And.intro (by decide) (mc_WP.run (mc_adjs _) 1 (And.intro (fun c => absurd c (show ¬ (¬ (0 : Int32) = 0) by decide)) (fun _ => (mc_WP.run (mc_adjs _) 1 (And.intro (by decide) (And.intro (by decide) ((g9.2 c69).1 c72)))))))))) (fun c72 => (mc_WP.run (mc_adjs _) 4 (And.intro s11 (And.intro (fun c73 => (mc_WP.run (mc_adjs _) 2 (And.intro (by decide) (mc_WP.run (mc_adjs _) 1 (And.intro (fun c => absurd c (show ¬ (¬ (0 : Int32) = 0) by decide)) (fun _ => (mc_WP.run (mc_adjs _) 1 (And.intro (by decide) (And.intro (by decide) (((g9.2 c69).2 c72).1 c73)))))))))) (fun c73 => (mc_WP.run (mc_adjs _) 2 (mc_WP.run (mc_adjs _) 1 (And.intro (by decide) (mc_WP.run (mc_adjs _) 1 (And.intro (fun _ => (by have g46 := (((g9.2 c69).2 c72).2 c73); have e47 : rf_w r (rf_w r (rf_w r (rf_w r r 1) x1.toNatClampNeg) 1) 0 = ((rf_w r (rf_w r (rf_w r r 1) x1.toNatClampNeg) 1) + 1) := (wd_P (r := r) (N := N) k12).2.1; have s48 : sh_w N (rf_w r (rf_w r (rf_w r (rf_w r r 1) x1.toNatClampNeg) 1) 0) = (2, 16) := (by rw [e47]; exact (wd_P (r := r) (N := N) k12).2.2); have ts48 : 10 ≤ rf_w r (rf_w r (rf_w r (rf_w r r 1) x1.toNatClampNeg) 1) 0 := (by rw [e47]; exact wd_tP k12 _); (try rw [← e47] at g46); exact (mc_WP.run (mc_adjs _) 5 (And.intro ⟨s11, (wd_Z s48)⟩ (And.intro (wl_ld s48 g46.1) g46.2))))) (fun c => absurd (show ¬ (1 : Int32) = 0 by decide) c)))))))))))))))))))))))))))))))))))))) (fun c68 => (by have g49 := (h.2 c68); have e50 : rf_w r r 0 = (r + 1) := (wd_R (r := r) (N := N) hr).2.1; have s51 : sh_w N (rf_w r r 0) = (1, 6) := (by rw [e50]; exact (wd_R (r := r) (N := N) hr).2.2.2.1); have k52 : is_P (rf_w r r 0) := (by rw [e50]; exact (wd_R (r := r) (N := N) hr).2.2.2.2.1); (try rw [← e50] at g49); exact (mc_WP.run (mc_adjs _) 4 (And.intro ⟨rfl, (wd_R0 hr)⟩ (And.intro ⟨(wd_R (r := r) (N := N) hr).1, (wd_Z s51)⟩ (mc_WP.run (mc_adjs _) 4 (And.intro s51 (And.intro (by decide) (And.intro (by decide) (mc_inl (mc_WP.run (mc_adjs _) 2 (And.intro (fun c74 => (mc_WP.run (mc_adjs _) 2 (And.intro (by decide) (mc_WP.run (mc_adjs _) 1 (And.intro (fun c => absurd c (show ¬ (¬ (0 : Int32) = 0) by decide)) (fun _ => (mc_WP.run (mc_adjs _) 1 (And.intro (by decide) (And.intro (by decide) (g49.1 c74)))))))))) (fun c74 => (mc_WP.run (mc_adjs _) 4 (And.intro s51 (And.intro (fun c75 => (mc_WP.run (mc_adjs _) 2 (And.intro (by decide) (mc_WP.run (mc_adjs _) 1 (And.intro (fun c => absurd c (show ¬ (¬ (0 : Int32) = 0) by decide)) (fun _ => (mc_WP.run (mc_adjs _) 1 (And.intro (by decide) (And.intro (by decide) ((g49.2 c74).1 c75)))))))))) (fun c75 => (mc_WP.run (mc_adjs _) 2 (mc_WP.run (mc_adjs _) 1 (And.intro (by decide) (mc_WP.run (mc_adjs _) 1 (And.intro (fun _ => (by have g65 := ((g49.2 c74).2 c75); have e66 : rf_w r (rf_w r r 0) 0 = ((rf_w r r 0) + 1) := (wd_P (r := r) (N := N) k52).2.1; have s67 : sh_w N (rf_w r (rf_w r r 0) 0) = (2, 16) := (by rw [e66]; exact (wd_P (r := r) (N := N) k52).2.2); have ts67 : 10 ≤ rf_w r (rf_w r r 0) 0 := (by rw [e66]; exact wd_tP k52 _); (try rw [← e66] at g65); exact (mc_WP.run (mc_adjs _) 5 (And.intro ⟨s51, (wd_Z s67)⟩ (And.intro (wl_ld s67 g65.1) g65.2))))) (fun c => absurd (show ¬ (1 : Int32) = 0 by decide) c)))))))))))))))))))))))))
-- 8 pixelAt(III)I inl<=6
set_option maxRecDepth 20000 in
theorem bk_8_0 {x1 : Int32} {x2 : Int32} {x3 : Int32}
    (h : ∃ R : mc_Q, mc_WP (mc_en 16 [.ref 10, .int x1, .int x2, .int x3] (I, J, rf_w r, sh_w N, n)) R ∧ (∀ v t, R (.inl v) t → mc_WP (8, 7, [.ref 10, .int x1, .int x2, .int x3], v.toList ++ [], t, (2, 12)) Q) ∧ (∀ k t, R (.inr k) t → Q (.inr k) t)) :
    mc_WP (mc_en 8 [.ref 10, .int x1, .int x2, .int x3] (I, J, rf_w r, sh_w N, n)) Q := by
  exact (mc_WP.run (mc_adjs _) 5 (And.intro rfl (And.intro (by decide) (And.intro (by decide) h))))
set_option maxRecDepth 20000 in
theorem bk_8_7 {x1 : Int32} {x2 : Int32} {x3 : Int32} (hr : is_R r)
    (h : vp_in x1 4 ∧ vp_in ((x3 * (8 : Int32)) + x2) 64 ∧ Q (.inl (some (.int (I ((r + 4 + 4 * x1.toNatClampNeg) + 1) ((x3 * (8 : Int32)) + x2).toNatClampNeg)))) (I, J, rf_w r, sh_w N, n)) :
    mc_WP (8, 7, [.ref 10, .int x1, .int x2, .int x3], [], (I, J, rf_w r, sh_w N, n), (2, 12)) Q := by
  exact (by have g1 := h; have e2 : rf_w r r 1 = (r + 3) := (wd_R (r := r) (N := N) hr).2.2.1; have s3 : sh_w N (rf_w r r 1) = (3, 4) := (by rw [e2]; exact (wd_R (r := r) (N := N) hr).2.2.2.2.2); (try rw [← e2] at g1); have f4 : vp_in x1 4 := g1.1; have e5 : rf_w r (rf_w r r 1) x1.toNatClampNeg = (r + 4 + 4 * x1.toNatClampNeg) := (by rw [e2]; exact (wd_A (r := r) (N := N) hr f4).1); have s6 : sh_w N (rf_w r (rf_w r r 1) x1.toNatClampNeg) = (1, 4) := (by rw [e5]; exact (wd_A (r := r) (N := N) hr f4).2.1); have k7 : is_F (rf_w r (rf_w r r 1) x1.toNatClampNeg) := (by rw [e5]; exact (wd_A (r := r) (N := N) hr f4).2.2); (try rw [← e5] at g1); have e8 : rf_w r (rf_w r (rf_w r r 1) x1.toNatClampNeg) 0 = ((rf_w r (rf_w r r 1) x1.toNatClampNeg) + 1) := (wd_F (r := r) (N := N) k7).2.1; have s9 : sh_w N (rf_w r (rf_w r (rf_w r r 1) x1.toNatClampNeg) 0) = (2, 64) := (by rw [e8]; exact (wd_F (r := r) (N := N) k7).2.2.2.1); have ts9 : 10 ≤ rf_w r (rf_w r (rf_w r r 1) x1.toNatClampNeg) 0 := (by rw [e8]; exact wd_tF k7 _); (try rw [← e8] at g1); exact (mc_WP.run (mc_adjs _) 9 (And.intro ⟨rfl, (wd_R0 hr)⟩ (And.intro ⟨(wd_R (r := r) (N := N) hr).1, (wd_Z s3)⟩ (And.intro (wl_la s3 g1.1 (wd_Z s6)) (And.intro ⟨s6, (wd_Z s9)⟩ (And.intro (by decide) (And.intro (by decide) (mc_inl (mc_WP.run (mc_adjs _) 6 (mc_WP.run (mc_adjs _) 2 (And.intro (wl_ld s9 g1.2.1) g1.2.2))))))))))))
-- 10 draw(I)I inl<=6
set_option maxRecDepth 20000 in
theorem bk_10_0 {x1 : Int32} (hr : is_R r)
    (h : (x1 < (0 : Int32) → (Q (.inr 2) (I, J, rf_w r, sh_w N, 0))) ∧
        (¬ (x1 < (0 : Int32)) →
        (((I r 4) < x1 → (Q (.inr 2) (I, J, rf_w r, sh_w N, 0))) ∧
          (¬ ((I r 4) < x1) →
          (∃ R : mc_Q, mc_WP (mc_en 128 [.ref 11, .ref r, .int x1] (I, J, rf_w r, sh_w N, n)) R ∧ (∀ v t, R (.inl v) t → mc_WP (10, 37, [.ref 10, .int x1], v.toList ++ [], t, (0, 0)) Q) ∧ (∀ k t, R (.inr k) t → Q (.inr k) t)))))) :
    mc_WP (mc_en 10 [.ref 10, .int x1] (I, J, rf_w r, sh_w N, n)) Q := by
  exact (mc_WP.run (mc_adjs _) 6 (And.intro ⟨rfl, (wd_R0 hr)⟩ (And.intro (wd_R (r := r) (N := N) hr).1 (And.intro (by decide) (And.intro (by decide) (mc_inl (mc_WP.run (mc_adjs _) 3 (And.intro (fun c14 => (mc_WP.run (mc_adjs _) 2 (And.intro (by decide) (mc_WP.run (mc_adjs _) 1 (And.intro (fun c => absurd c (show ¬ (¬ (0 : Int32) = 0) by decide)) (fun _ => (mc_WP.run (mc_adjs _) 1 (And.intro (by decide) (And.intro (by decide) (h.1 c14)))))))))) (fun c14 => (mc_WP.run (mc_adjs _) 3 (And.intro (fun c15 => (mc_WP.run (mc_adjs _) 2 (And.intro (by decide) (mc_WP.run (mc_adjs _) 1 (And.intro (fun c => absurd c (show ¬ (¬ (0 : Int32) = 0) by decide)) (fun _ => (mc_WP.run (mc_adjs _) 1 (And.intro (by decide) (And.intro (by decide) ((h.2 c14).1 c15)))))))))) (fun c15 => (mc_WP.run (mc_adjs _) 2 (mc_WP.run (mc_adjs _) 1 (And.intro (by decide) (mc_WP.run (mc_adjs _) 1 (And.intro (fun _ => (mc_WP.run (mc_adjs _) 6 (And.intro ⟨rfl, (show ¬ (11 : Nat) = 0 by decide)⟩ (And.intro ⟨rfl, (wd_R0 hr)⟩ (And.intro rfl (And.intro (by decide) (And.intro (by decide) ((h.2 c14).2 c15)))))))) (fun c => absurd (show ¬ (1 : Int32) = 0 by decide) c))))))))))))))))))
set_option maxRecDepth 20000 in
theorem bk_10_37 {x1 : Int32}
    (h : ∃ R : mc_Q, mc_WP (mc_en 129 [.ref 11] (I, J, rf_w r, sh_w N, n)) R ∧ (∀ v t, R (.inl v) t → mc_WP (10, 44, [.ref 10, .int x1], v.toList ++ [], t, (0, 0)) Q) ∧ (∀ k t, R (.inr k) t → Q (.inr k) t)) :
    mc_WP (10, 37, [.ref 10, .int x1], [], (I, J, rf_w r, sh_w N, n), (0, 0)) Q := by
  exact (mc_WP.run (mc_adjs _) 3 (And.intro ⟨rfl, (show ¬ (11 : Nat) = 0 by decide)⟩ (And.intro rfl (And.intro (by decide) (And.intro (by decide) h)))))
set_option maxRecDepth 20000 in
theorem bk_10_44 {x1 : Int32} {y0 : Int32}
    (h : Q (.inl (some (.int y0))) (I, J, rf_w r, sh_w N, n)) :
    mc_WP (10, 44, [.ref 10, .int x1], [.int y0], (I, J, rf_w r, sh_w N, n), (0, 0)) Q := by
  exact (mc_WP.run (mc_adjs _) 1 h)
-- 11 shown(II)I inl<=6
set_option maxRecDepth 20000 in
theorem bk_11_0 {x1 : Int32} {x2 : Int32}
    (h : ∃ R : mc_Q, mc_WP (mc_en 17 [.ref 10, .int x1, .int x2] (I, J, rf_w r, sh_w N, n)) R ∧ (∀ v t, R (.inl v) t → mc_WP (11, 6, [.ref 10, .int x1, .int x2], v.toList ++ [], t, (1, 6)) Q) ∧ (∀ k t, R (.inr k) t → Q (.inr k) t)) :
    mc_WP (mc_en 11 [.ref 10, .int x1, .int x2] (I, J, rf_w r, sh_w N, n)) Q := by
  exact (mc_WP.run (mc_adjs _) 4 (And.intro rfl (And.intro (by decide) (And.intro (by decide) h))))
set_option maxRecDepth 20000 in
theorem bk_11_6 {x1 : Int32} {x2 : Int32}
    (h : vp_in ((x2 * (8 : Int32)) + x1) 64 ∧ Q (.inl (some (.int (I 12 ((x2 * (8 : Int32)) + x1).toNatClampNeg)))) (I, J, rf_w r, sh_w N, n)) :
    mc_WP (11, 6, [.ref 10, .int x1, .int x2], [], (I, J, rf_w r, sh_w N, n), (1, 6)) Q := by
  exact (mc_WP.run (mc_adjs _) 6 (And.intro ⟨rfl, (show ¬ (11 : Nat) = 0 by decide)⟩ (And.intro ⟨rfl, (show ¬ (12 : Nat) = 0 by decide)⟩ (And.intro (by decide) (And.intro (by decide) (mc_inl (mc_WP.run (mc_adjs _) 6 (mc_WP.run (mc_adjs _) 2 (And.intro (wl_ld rfl h.1) h.2)))))))))
-- 12 paint(III)V inl<=6
set_option maxRecDepth 20000 in
theorem bk_12_0 {x1 : Int32} {x2 : Int32} {x3 : Int32}
    (h : ∃ R : mc_Q, mc_WP (mc_en 17 [.ref 10, .int x1, .int x2] (I, J, rf_w r, sh_w N, n)) R ∧ (∀ v t, R (.inl v) t → mc_WP (12, 6, [.ref 10, .int x1, .int x2, .int x3], v.toList ++ [], t, (1, 6)) Q) ∧ (∀ k t, R (.inr k) t → Q (.inr k) t)) :
    mc_WP (mc_en 12 [.ref 10, .int x1, .int x2, .int x3] (I, J, rf_w r, sh_w N, n)) Q := by
  exact (mc_WP.run (mc_adjs _) 4 (And.intro rfl (And.intro (by decide) (And.intro (by decide) h))))
set_option maxRecDepth 20000 in
theorem bk_12_6 {x1 : Int32} {x2 : Int32} {x3 : Int32}
    (h : vp_in ((x2 * (8 : Int32)) + x1) 64 ∧ Q (.inl none) ((mc_up I 75 ((x2 * (8 : Int32)) + x1).toNatClampNeg (x3 &&& (Int32.ofNat 16777215))), J, rf_w r, sh_w N, n)) :
    mc_WP (12, 6, [.ref 10, .int x1, .int x2, .int x3], [], (I, J, rf_w r, sh_w N, n), (1, 6)) Q := by
  exact (mc_WP.run (mc_adjs _) 5 (And.intro ⟨rfl, (show ¬ (75 : Nat) = 0 by decide)⟩ (And.intro (by decide) (And.intro (by decide) (mc_inl (mc_WP.run (mc_adjs _) 6 (mc_WP.run (mc_adjs _) 5 (And.intro (wl_st rfl h.1 (show 10 ≤ (75 : Nat) by decide)) h.2))))))))
-- 13 reduce(II)I inl<=6
set_option maxRecDepth 20000 in
theorem bk_13_0 {x1 : Int32} {x2 : Int32} (hr : is_R r)
    (h : (x1 < (1 : Int32) → (Q (.inr 2) (I, J, rf_w r, sh_w N, 0))) ∧
        (¬ (x1 < (1 : Int32)) →
        (((16 : Int32) < x1 → (Q (.inr 2) (I, J, rf_w r, sh_w N, 0))) ∧
          (¬ ((16 : Int32) < x1) →
          ((x2 < (0 : Int32) → (Q (.inr 2) (I, J, rf_w r, sh_w N, 0))) ∧
            (¬ (x2 < (0 : Int32)) →
            (((2 : Int32) < x2 → (Q (.inr 2) (I, J, rf_w r, sh_w N, 0))) ∧
              (¬ ((2 : Int32) < x2) →
              (((I r 4) < (4 : Int32) →
                (∃ R : mc_Q, mc_WP (mc_en 190 [.ref r, .int (0 : Int32), .int (0 : Int32), .int (I r 2), .int (I r 3)] (I, J, rf_w r, sh_w N, n)) R ∧ (∀ v t, R (.inl v) t → mc_WP (13, 60, [.ref 10, .int x1, .int x2], v.toList ++ [.ref 76], t, (1, 6)) Q) ∧ (∀ k t, R (.inr k) t → Q (.inr k) t))) ∧
                (¬ ((I r 4) < (4 : Int32)) → (Q (.inr 3) (I, J, rf_w r, sh_w N, 0)))))))))))) :
    mc_WP (mc_en 13 [.ref 10, .int x1, .int x2] (I, J, rf_w r, sh_w N, n)) Q := by
  exact (mc_WP.run (mc_adjs _) 4 (And.intro (by decide) (And.intro (by decide) (mc_inl (mc_WP.run (mc_adjs _) 3 (And.intro (fun c30 => (mc_WP.run (mc_adjs _) 2 (And.intro (by decide) (mc_WP.run (mc_adjs _) 1 (And.intro (fun _ => (mc_WP.run (mc_adjs _) 1 (And.intro (by decide) (And.intro (by decide) (h.1 c30))))) (fun c => absurd (show (0 : Int32) = 0 by decide) c)))))) (fun c30 => (mc_WP.run (mc_adjs _) 3 (And.intro (fun c31 => (mc_WP.run (mc_adjs _) 2 (And.intro (by decide) (mc_WP.run (mc_adjs _) 1 (And.intro (fun _ => (mc_WP.run (mc_adjs _) 1 (And.intro (by decide) (And.intro (by decide) ((h.2 c30).1 c31))))) (fun c => absurd (show (0 : Int32) = 0 by decide) c)))))) (fun c31 => (mc_WP.run (mc_adjs _) 2 (mc_WP.run (mc_adjs _) 1 (And.intro (by decide) (mc_WP.run (mc_adjs _) 1 (And.intro (fun c => absurd c (show ¬ ((1 : Int32) = 0) by decide)) (fun _ => (mc_WP.run (mc_adjs _) 4 (And.intro (by decide) (And.intro (by decide) (mc_inl (mc_WP.run (mc_adjs _) 3 (And.intro (fun c32 => (mc_WP.run (mc_adjs _) 2 (And.intro (by decide) (mc_WP.run (mc_adjs _) 1 (And.intro (fun c => absurd c (show ¬ (¬ (0 : Int32) = 0) by decide)) (fun _ => (mc_WP.run (mc_adjs _) 1 (And.intro (by decide) (And.intro (by decide) (((h.2 c30).2 c31).1 c32)))))))))) (fun c32 => (mc_WP.run (mc_adjs _) 3 (And.intro (fun c33 => (mc_WP.run (mc_adjs _) 2 (And.intro (by decide) (mc_WP.run (mc_adjs _) 1 (And.intro (fun c => absurd c (show ¬ (¬ (0 : Int32) = 0) by decide)) (fun _ => (mc_WP.run (mc_adjs _) 1 (And.intro (by decide) (And.intro (by decide) ((((h.2 c30).2 c31).2 c32).1 c33)))))))))) (fun c33 => (mc_WP.run (mc_adjs _) 2 (mc_WP.run (mc_adjs _) 1 (And.intro (by decide) (mc_WP.run (mc_adjs _) 1 (And.intro (fun _ => (mc_WP.run (mc_adjs _) 2 (And.intro rfl (And.intro (by decide) (And.intro (by decide) (mc_inl (mc_WP.run (mc_adjs _) 5 (And.intro ⟨rfl, (wd_R0 hr)⟩ (And.intro (wd_R (r := r) (N := N) hr).1 (And.intro (fun c34 => (mc_WP.run (mc_adjs _) 1 (mc_WP.run (mc_adjs _) 13 (And.intro ⟨rfl, (show ¬ (76 : Nat) = 0 by decide)⟩ (And.intro ⟨rfl, (wd_R0 hr)⟩ (And.intro ⟨rfl, (wd_R0 hr)⟩ (And.intro (wd_R (r := r) (N := N) hr).1 (And.intro ⟨rfl, (wd_R0 hr)⟩ (And.intro (wd_R (r := r) (N := N) hr).1 (And.intro (wd_R (r := r) (N := N) hr).1 (And.intro (by decide) (And.intro (by decide) (((((h.2 c30).2 c31).2 c32).2 c33).1 c34))))))))))))) (fun c34 => (mc_WP.run (mc_adjs _) 1 (And.intro (by decide) (And.intro (by decide) (((((h.2 c30).2 c31).2 c32).2 c33).2 c34))))))))))))))) (fun c => absurd (show ¬ (1 : Int32) = 0 by decide) c))))))))))))))))))))))))))))))))
set_option maxRecDepth 20000 in
theorem bk_13_60 {x1 : Int32} {x2 : Int32} {b1 : Nat} (hb1 : is_F b1)
    (h : ∃ R : mc_Q, mc_WP (mc_en 168 [.ref 76, .ref b1, .int x1, .int x2] (I, J, rf_w r, sh_w N, n)) R ∧ (∀ v t, R (.inl v) t → mc_WP (13, 65, [.ref 10, .int x1, .int x2], v.toList ++ [], t, (1, 6)) Q) ∧ (∀ k t, R (.inr k) t → Q (.inr k) t)) :
    mc_WP (13, 60, [.ref 10, .int x1, .int x2], [.ref b1, .ref 76], (I, J, rf_w r, sh_w N, n), (1, 6)) Q := by
  exact (mc_WP.run (mc_adjs _) 3 (And.intro rfl (And.intro (by decide) (And.intro (by decide) h))))
set_option maxRecDepth 20000 in
theorem bk_13_65 {x1 : Int32} {x2 : Int32} {y0 : Int32}
    (h : Q (.inl (some (.int y0))) (I, J, rf_w r, sh_w N, n)) :
    mc_WP (13, 65, [.ref 10, .int x1, .int x2], [.int y0], (I, J, rf_w r, sh_w N, n), (1, 6)) Q := by
  exact (mc_WP.run (mc_adjs _) 1 h)
-- 14 requireFrame(I)V inl<=6
set_option maxRecDepth 20000 in
theorem bk_14_0 {x1 : Int32} (hr : is_R r)
    (h : (x1 < (0 : Int32) → (Q (.inr 1) (I, J, rf_w r, sh_w N, 0))) ∧
        (¬ (x1 < (0 : Int32)) →
        ((((I r 4) - (1 : Int32)) < x1 → (Q (.inr 1) (I, J, rf_w r, sh_w N, 0))) ∧
          (¬ (((I r 4) - (1 : Int32)) < x1) → (Q (.inl none) (I, J, rf_w r, sh_w N, n)))))) :
    mc_WP (mc_en 14 [.ref 10, .int x1] (I, J, rf_w r, sh_w N, n)) Q := by
  exact (mc_WP.run (mc_adjs _) 8 (And.intro ⟨rfl, (wd_R0 hr)⟩ (And.intro (wd_R (r := r) (N := N) hr).1 (And.intro (by decide) (And.intro (by decide) (mc_inl (mc_WP.run (mc_adjs _) 3 (And.intro (fun c14 => (mc_WP.run (mc_adjs _) 2 (And.intro (by decide) (mc_WP.run (mc_adjs _) 1 (And.intro (fun c => absurd c (show ¬ (¬ (0 : Int32) = 0) by decide)) (fun _ => (mc_WP.run (mc_adjs _) 1 (And.intro (by decide) (And.intro (by decide) (h.1 c14)))))))))) (fun c14 => (mc_WP.run (mc_adjs _) 3 (And.intro (fun c15 => (mc_WP.run (mc_adjs _) 2 (And.intro (by decide) (mc_WP.run (mc_adjs _) 1 (And.intro (fun c => absurd c (show ¬ (¬ (0 : Int32) = 0) by decide)) (fun _ => (mc_WP.run (mc_adjs _) 1 (And.intro (by decide) (And.intro (by decide) ((h.2 c14).1 c15)))))))))) (fun c15 => (mc_WP.run (mc_adjs _) 2 (mc_WP.run (mc_adjs _) 1 (And.intro (by decide) (mc_WP.run (mc_adjs _) 1 (And.intro (fun _ => (mc_WP.run (mc_adjs _) 1 ((h.2 c14).2 c15))) (fun c => absurd (show ¬ (1 : Int32) = 0 by decide) c))))))))))))))))))
-- 15 requireOwner(I)V inl<=6
set_option maxRecDepth 20000 in
theorem bk_15_0 {x1 : Int32} (hr : is_R r)
    (h : (x1 = (-1 : Int32) → (Q (.inl none) (I, J, rf_w r, sh_w N, n))) ∧
        (¬ (x1 = (-1 : Int32)) →
        ((x1 < (0 : Int32) → (Q (.inr 1) (I, J, rf_w r, sh_w N, 0))) ∧
          (¬ (x1 < (0 : Int32)) →
          ((((I r 4) - (1 : Int32)) < x1 → (Q (.inr 1) (I, J, rf_w r, sh_w N, 0))) ∧
            (¬ (((I r 4) - (1 : Int32)) < x1) → (Q (.inl none) (I, J, rf_w r, sh_w N, n)))))))) :
    mc_WP (mc_en 15 [.ref 10, .int x1] (I, J, rf_w r, sh_w N, n)) Q := by
  exact (mc_WP.run (mc_adjs _) 3 (And.intro (fun c18 => (mc_WP.run (mc_adjs _) 1 (h.1 c18))) (fun c18 => (mc_WP.run (mc_adjs _) 3 (And.intro rfl (And.intro (by decide) (And.intro (by decide) (mc_inl (mc_WP.run (mc_adjs _) 8 (And.intro ⟨rfl, (wd_R0 hr)⟩ (And.intro (wd_R (r := r) (N := N) hr).1 (And.intro (by decide) (And.intro (by decide) (mc_inl (mc_WP.run (mc_adjs _) 3 (And.intro (fun c19 => (mc_WP.run (mc_adjs _) 2 (And.intro (by decide) (mc_WP.run (mc_adjs _) 1 (And.intro (fun c => absurd c (show ¬ (¬ (0 : Int32) = 0) by decide)) (fun _ => (mc_WP.run (mc_adjs _) 1 (And.intro (by decide) (And.intro (by decide) ((h.2 c18).1 c19)))))))))) (fun c19 => (mc_WP.run (mc_adjs _) 3 (And.intro (fun c20 => (mc_WP.run (mc_adjs _) 2 (And.intro (by decide) (mc_WP.run (mc_adjs _) 1 (And.intro (fun c => absurd c (show ¬ (¬ (0 : Int32) = 0) by decide)) (fun _ => (mc_WP.run (mc_adjs _) 1 (And.intro (by decide) (And.intro (by decide) (((h.2 c18).2 c19).1 c20)))))))))) (fun c20 => (mc_WP.run (mc_adjs _) 2 (mc_WP.run (mc_adjs _) 1 (And.intro (by decide) (mc_WP.run (mc_adjs _) 1 (And.intro (fun _ => (mc_WP.run (mc_adjs _) 1 (mc_WP.run (mc_adjs _) 1 (((h.2 c18).2 c19).2 c20)))) (fun c => absurd (show ¬ (1 : Int32) = 0 by decide) c))))))))))))))))))))))))))
-- 16 requirePixel(III)V inl<=6
set_option maxRecDepth 20000 in
theorem bk_16_0 {x1 : Int32} {x2 : Int32} {x3 : Int32} (hr : is_R r)
    (h : (x1 < (0 : Int32) → (Q (.inr 1) (I, J, rf_w r, sh_w N, 0))) ∧
        (¬ (x1 < (0 : Int32)) →
        ((((I r 4) - (1 : Int32)) < x1 → (Q (.inr 1) (I, J, rf_w r, sh_w N, 0))) ∧
          (¬ (((I r 4) - (1 : Int32)) < x1) →
          (vp_in x1 4 ∧ (x2 < 0 → (Q (.inr 1) (I, J, rf_w r, sh_w N, 0))) ∧
            (¬ (x2 < 0) →
            (((I (r + 4 + 4 * x1.toNatClampNeg) 4) ≤ x2 → (Q (.inr 1) (I, J, rf_w r, sh_w N, 0))) ∧
              (¬ ((I (r + 4 + 4 * x1.toNatClampNeg) 4) ≤ x2) →
              ((x3 < 0 → (Q (.inr 1) (I, J, rf_w r, sh_w N, 0))) ∧
                (¬ (x3 < 0) →
                (((I (r + 4 + 4 * x1.toNatClampNeg) 5) ≤ x3 → (Q (.inr 1) (I, J, rf_w r, sh_w N, 0))) ∧
                  (¬ ((I (r + 4 + 4 * x1.toNatClampNeg) 5) ≤ x3) → (Q (.inl none) (I, J, rf_w r, sh_w N, n)))))))))))))) :
    mc_WP (mc_en 16 [.ref 10, .int x1, .int x2, .int x3] (I, J, rf_w r, sh_w N, n)) Q := by
  exact (mc_WP.run (mc_adjs _) 3 (And.intro rfl (And.intro (by decide) (And.intro (by decide) (mc_inl (mc_WP.run (mc_adjs _) 8 (And.intro ⟨rfl, (wd_R0 hr)⟩ (And.intro (wd_R (r := r) (N := N) hr).1 (And.intro (by decide) (And.intro (by decide) (mc_inl (mc_WP.run (mc_adjs _) 3 (And.intro (fun c42 => (mc_WP.run (mc_adjs _) 2 (And.intro (by decide) (mc_WP.run (mc_adjs _) 1 (And.intro (fun c => absurd c (show ¬ (¬ (0 : Int32) = 0) by decide)) (fun _ => (mc_WP.run (mc_adjs _) 1 (And.intro (by decide) (And.intro (by decide) (h.1 c42)))))))))) (fun c42 => (mc_WP.run (mc_adjs _) 3 (And.intro (fun c43 => (mc_WP.run (mc_adjs _) 2 (And.intro (by decide) (mc_WP.run (mc_adjs _) 1 (And.intro (fun c => absurd c (show ¬ (¬ (0 : Int32) = 0) by decide)) (fun _ => (mc_WP.run (mc_adjs _) 1 (And.intro (by decide) (And.intro (by decide) ((h.2 c42).1 c43)))))))))) (fun c43 => (mc_WP.run (mc_adjs _) 2 (mc_WP.run (mc_adjs _) 1 (And.intro (by decide) (mc_WP.run (mc_adjs _) 1 (And.intro (fun _ => (mc_WP.run (mc_adjs _) 1 (by have g15 := ((h.2 c42).2 c43); have e16 : rf_w r r 1 = (r + 3) := (wd_R (r := r) (N := N) hr).2.2.1; have s17 : sh_w N (rf_w r r 1) = (3, 4) := (by rw [e16]; exact (wd_R (r := r) (N := N) hr).2.2.2.2.2); (try rw [← e16] at g15); have f18 : vp_in x1 4 := g15.1; have e19 : rf_w r (rf_w r r 1) x1.toNatClampNeg = (r + 4 + 4 * x1.toNatClampNeg) := (by rw [e16]; exact (wd_A (r := r) (N := N) hr f18).1); have s20 : sh_w N (rf_w r (rf_w r r 1) x1.toNatClampNeg) = (1, 4) := (by rw [e19]; exact (wd_A (r := r) (N := N) hr f18).2.1); have k21 : is_F (rf_w r (rf_w r r 1) x1.toNatClampNeg) := (by rw [e19]; exact (wd_A (r := r) (N := N) hr f18).2.2); (try rw [← e19] at g15); exact (mc_WP.run (mc_adjs _) 13 (And.intro ⟨rfl, (wd_R0 hr)⟩ (And.intro ⟨(wd_R (r := r) (N := N) hr).1, (wd_Z s17)⟩ (And.intro (wl_la s17 g15.1 (wd_Z s20)) (And.intro s20 (And.intro s20 (And.intro (by decide) (And.intro (by decide) (mc_inl (mc_WP.run (mc_adjs _) 2 (And.intro (fun c44 => (mc_WP.run (mc_adjs _) 2 (And.intro (by decide) (mc_WP.run (mc_adjs _) 1 (And.intro (fun c => absurd c (show ¬ (¬ (0 : Int32) = 0) by decide)) (fun _ => (mc_WP.run (mc_adjs _) 1 (And.intro (by decide) (And.intro (by decide) (g15.2.1 c44)))))))))) (fun c44 => (mc_WP.run (mc_adjs _) 3 (And.intro (fun c45 => (mc_WP.run (mc_adjs _) 2 (And.intro (by decide) (mc_WP.run (mc_adjs _) 1 (And.intro (fun c => absurd c (show ¬ (¬ (0 : Int32) = 0) by decide)) (fun _ => (mc_WP.run (mc_adjs _) 1 (And.intro (by decide) (And.intro (by decide) ((g15.2.2 c44).1 c45)))))))))) (fun c45 => (mc_WP.run (mc_adjs _) 2 (And.intro (fun c46 => (mc_WP.run (mc_adjs _) 2 (And.intro (by decide) (mc_WP.run (mc_adjs _) 1 (And.intro (fun c => absurd c (show ¬ (¬ (0 : Int32) = 0) by decide)) (fun _ => (mc_WP.run (mc_adjs _) 1 (And.intro (by decide) (And.intro (by decide) (((g15.2.2 c44).2 c45).1 c46)))))))))) (fun c46 => (mc_WP.run (mc_adjs _) 3 (And.intro (fun c47 => (mc_WP.run (mc_adjs _) 2 (And.intro (by decide) (mc_WP.run (mc_adjs _) 1 (And.intro (fun c => absurd c (show ¬ (¬ (0 : Int32) = 0) by decide)) (fun _ => (mc_WP.run (mc_adjs _) 1 (And.intro (by decide) (And.intro (by decide) ((((g15.2.2 c44).2 c45).2 c46).1 c47)))))))))) (fun c47 => (mc_WP.run (mc_adjs _) 2 (mc_WP.run (mc_adjs _) 1 (And.intro (by decide) (mc_WP.run (mc_adjs _) 1 (And.intro (fun _ => (mc_WP.run (mc_adjs _) 1 ((((g15.2.2 c44).2 c45).2 c46).2 c47))) (fun c => absurd (show ¬ (1 : Int32) = 0 by decide) c)))))))))))))))))))))))))))))) (fun c => absurd (show ¬ (1 : Int32) = 0 by decide) c)))))))))))))))))))))))
-- 17 requirePlace(II)V inl<=6
set_option maxRecDepth 20000 in
theorem bk_17_0 {x1 : Int32} {x2 : Int32} (hr : is_R r)
    (h : (x1 < 0 → (Q (.inr 1) (I, J, rf_w r, sh_w N, 0))) ∧
        (¬ (x1 < 0) →
        (((I r 2) ≤ x1 → (Q (.inr 1) (I, J, rf_w r, sh_w N, 0))) ∧
          (¬ ((I r 2) ≤ x1) →
          ((x2 < 0 → (Q (.inr 1) (I, J, rf_w r, sh_w N, 0))) ∧
            (¬ (x2 < 0) →
            (((I r 3) ≤ x2 → (Q (.inr 1) (I, J, rf_w r, sh_w N, 0))) ∧
              (¬ ((I r 3) ≤ x2) → (Q (.inl none) (I, J, rf_w r, sh_w N, n)))))))))) :
    mc_WP (mc_en 17 [.ref 10, .int x1, .int x2] (I, J, rf_w r, sh_w N, n)) Q := by
  exact (mc_WP.run (mc_adjs _) 9 (And.intro ⟨rfl, (wd_R0 hr)⟩ (And.intro (wd_R (r := r) (N := N) hr).1 (And.intro ⟨rfl, (wd_R0 hr)⟩ (And.intro (wd_R (r := r) (N := N) hr).1 (And.intro (by decide) (And.intro (by decide) (mc_inl (mc_WP.run (mc_adjs _) 2 (And.intro (fun c22 => (mc_WP.run (mc_adjs _) 2 (And.intro (by decide) (mc_WP.run (mc_adjs _) 1 (And.intro (fun c => absurd c (show ¬ (¬ (0 : Int32) = 0) by decide)) (fun _ => (mc_WP.run (mc_adjs _) 1 (And.intro (by decide) (And.intro (by decide) (h.1 c22)))))))))) (fun c22 => (mc_WP.run (mc_adjs _) 3 (And.intro (fun c23 => (mc_WP.run (mc_adjs _) 2 (And.intro (by decide) (mc_WP.run (mc_adjs _) 1 (And.intro (fun c => absurd c (show ¬ (¬ (0 : Int32) = 0) by decide)) (fun _ => (mc_WP.run (mc_adjs _) 1 (And.intro (by decide) (And.intro (by decide) ((h.2 c22).1 c23)))))))))) (fun c23 => (mc_WP.run (mc_adjs _) 2 (And.intro (fun c24 => (mc_WP.run (mc_adjs _) 2 (And.intro (by decide) (mc_WP.run (mc_adjs _) 1 (And.intro (fun c => absurd c (show ¬ (¬ (0 : Int32) = 0) by decide)) (fun _ => (mc_WP.run (mc_adjs _) 1 (And.intro (by decide) (And.intro (by decide) (((h.2 c22).2 c23).1 c24)))))))))) (fun c24 => (mc_WP.run (mc_adjs _) 3 (And.intro (fun c25 => (mc_WP.run (mc_adjs _) 2 (And.intro (by decide) (mc_WP.run (mc_adjs _) 1 (And.intro (fun c => absurd c (show ¬ (¬ (0 : Int32) = 0) by decide)) (fun _ => (mc_WP.run (mc_adjs _) 1 (And.intro (by decide) (And.intro (by decide) ((((h.2 c22).2 c23).2 c24).1 c25)))))))))) (fun c25 => (mc_WP.run (mc_adjs _) 2 (mc_WP.run (mc_adjs _) 1 (And.intro (by decide) (mc_WP.run (mc_adjs _) 1 (And.intro (fun _ => (mc_WP.run (mc_adjs _) 1 ((((h.2 c22).2 c23).2 c24).2 c25))) (fun c => absurd (show ¬ (1 : Int32) = 0 by decide) c))))))))))))))))))))))))))
-- 18 requireRoom()V inl<=6
set_option maxRecDepth 20000 in
theorem bk_18_0  (hr : is_R r)
    (h : ((I r 4) < (4 : Int32) → (Q (.inl none) (I, J, rf_w r, sh_w N, n))) ∧
        (¬ ((I r 4) < (4 : Int32)) → (Q (.inr 3) (I, J, rf_w r, sh_w N, 0)))) :
    mc_WP (mc_en 18 [.ref 10] (I, J, rf_w r, sh_w N, n)) Q := by
  exact (mc_WP.run (mc_adjs _) 5 (And.intro ⟨rfl, (wd_R0 hr)⟩ (And.intro (wd_R (r := r) (N := N) hr).1 (And.intro (fun c4 => (mc_WP.run (mc_adjs _) 1 (h.1 c4))) (fun c4 => (mc_WP.run (mc_adjs _) 1 (And.intro (by decide) (And.intro (by decide) (h.2 c4)))))))))
-- 29 palette(LPaletteReel;II[J)I inl<=6
set_option maxRecDepth 20000 in
theorem bk_29_0 {x1 : Int32} {x2 : Int32} {a3 : Nat} {a3z : Nat} (ha3 : sh_w N a3 = (4, a3z))
    (h : ∃ R : mc_Q, mc_WP (mc_en 1 [.ref 10, .int x1, .int x2] (I, J, rf_w r, sh_w N, n)) R ∧ (∀ v t, R (.inl v) t → mc_WP (29, 8, [.ref 10, .int x1, .int x2, .ref a3, .null], v.toList ++ [.int (0 : Int32), .ref a3], t, (2, 12)) Q) ∧ (∀ k t, R (.inr k) t → mc_out 29 (pg_hd 29 5 k) Q k t)) :
    mc_WP (mc_en 29 [.ref 10, .int x1, .int x2, .ref a3] (I, J, rf_w r, sh_w N, n)) Q := by
  exact (mc_WP.run (mc_adjs _) 6 (And.intro rfl (And.intro (by decide) (And.intro (by decide) h))))
set_option maxRecDepth 20000 in
theorem bk_29_8 {x1 : Int32} {x2 : Int32} {a3 : Nat} {a3z : Nat} {b0 : Nat} {b0z : Nat} {y1 : Int32} {y2 : Int32} (ha3 : sh_w N a3 = (4, a3z)) (hb0 : sh_w N b0 = (4, b0z)) (gb0 : 10 ≤ b0)
    (h : vp_in y1 b0z ∧ Q (.inl (some (.int (0 : Int32)))) (I, (mc_up J b0 y1.toNatClampNeg y2.toInt64), rf_w r, sh_w N, n)) :
    mc_WP (29, 8, [.ref 10, .int x1, .int x2, .ref a3, .null], [.int y2, .int y1, .ref b0], (I, J, rf_w r, sh_w N, n), (2, 12)) Q := by
  exact (mc_WP.run (mc_adjs _) 3 (And.intro (wl_stl hb0 h.1 gb0) (mc_WP.run (mc_adjs _) 2 h.2)))
-- 30 colour(LPaletteReel;III)I inl<=6
set_option maxRecDepth 20000 in
theorem bk_30_0 {x1 : Int32} {x2 : Int32} {x3 : Int32}
    (h : ∃ R : mc_Q, mc_WP (mc_en 2 [.ref 10, .int x1, .int x2, .int x3] (I, J, rf_w r, sh_w N, n)) R ∧ (∀ v t, R (.inl v) t → mc_WP (30, 7, [.ref 10, .int x1, .int x2, .int x3, .null], v.toList ++ [], t, (2, 12)) Q) ∧ (∀ k t, R (.inr k) t → mc_out 30 (pg_hd 30 4 k) Q k t)) :
    mc_WP (mc_en 30 [.ref 10, .int x1, .int x2, .int x3] (I, J, rf_w r, sh_w N, n)) Q := by
  exact (mc_WP.run (mc_adjs _) 5 (And.intro rfl (And.intro (by decide) (And.intro (by decide) h))))
set_option maxRecDepth 20000 in
theorem bk_30_7 {x1 : Int32} {x2 : Int32} {x3 : Int32}
    (h : Q (.inl (some (.int (0 : Int32)))) (I, J, rf_w r, sh_w N, n)) :
    mc_WP (30, 7, [.ref 10, .int x1, .int x2, .int x3, .null], [], (I, J, rf_w r, sh_w N, n), (2, 12)) Q := by
  exact (mc_WP.run (mc_adjs _) 1 (mc_WP.run (mc_adjs _) 2 h))
-- 31 frame(LPaletteReel;IIII[J)I inl<=6
set_option maxRecDepth 20000 in
theorem bk_31_0 {x1 : Int32} {x2 : Int32} {x3 : Int32} {x4 : Int32} {a5 : Nat} {a5z : Nat} (ha5 : sh_w N a5 = (4, a5z))
    (h : ∃ R : mc_Q, mc_WP (mc_en 3 [.ref 10, .int x1, .int x2, .int x3, .int x4] (I, J, rf_w r, sh_w N, n)) R ∧ (∀ v t, R (.inl v) t → mc_WP (31, 12, [.ref 10, .int x1, .int x2, .int x3, .int x4, .ref a5, .null], v.toList ++ [.int (0 : Int32), .ref a5], t, (2, 12)) Q) ∧ (∀ k t, R (.inr k) t → mc_out 31 (pg_hd 31 9 k) Q k t)) :
    mc_WP (mc_en 31 [.ref 10, .int x1, .int x2, .int x3, .int x4, .ref a5] (I, J, rf_w r, sh_w N, n)) Q := by
  exact (mc_WP.run (mc_adjs _) 8 (And.intro rfl (And.intro (by decide) (And.intro (by decide) h))))
set_option maxRecDepth 20000 in
theorem bk_31_12 {x1 : Int32} {x2 : Int32} {x3 : Int32} {x4 : Int32} {a5 : Nat} {a5z : Nat} {b0 : Nat} {b0z : Nat} {y1 : Int32} {y2 : Int32} (ha5 : sh_w N a5 = (4, a5z)) (hb0 : sh_w N b0 = (4, b0z)) (gb0 : 10 ≤ b0)
    (h : vp_in y1 b0z ∧ Q (.inl (some (.int (0 : Int32)))) (I, (mc_up J b0 y1.toNatClampNeg y2.toInt64), rf_w r, sh_w N, n)) :
    mc_WP (31, 12, [.ref 10, .int x1, .int x2, .int x3, .int x4, .ref a5, .null], [.int y2, .int y1, .ref b0], (I, J, rf_w r, sh_w N, n), (2, 12)) Q := by
  exact (mc_WP.run (mc_adjs _) 3 (And.intro (wl_stl hb0 h.1 gb0) (mc_WP.run (mc_adjs _) 2 h.2)))
-- 32 pixel(LPaletteReel;IIII)I inl<=6
set_option maxRecDepth 20000 in
theorem bk_32_0 {x1 : Int32} {x2 : Int32} {x3 : Int32} {x4 : Int32}
    (h : ∃ R : mc_Q, mc_WP (mc_en 4 [.ref 10, .int x1, .int x2, .int x3, .int x4] (I, J, rf_w r, sh_w N, n)) R ∧ (∀ v t, R (.inl v) t → mc_WP (32, 9, [.ref 10, .int x1, .int x2, .int x3, .int x4, .null], v.toList ++ [], t, (3, 18)) Q) ∧ (∀ k t, R (.inr k) t → mc_out 32 (pg_hd 32 6 k) Q k t)) :
    mc_WP (mc_en 32 [.ref 10, .int x1, .int x2, .int x3, .int x4] (I, J, rf_w r, sh_w N, n)) Q := by
  exact (mc_WP.run (mc_adjs _) 6 (And.intro rfl (And.intro (by decide) (And.intro (by decide) h))))
set_option maxRecDepth 20000 in
theorem bk_32_9 {x1 : Int32} {x2 : Int32} {x3 : Int32} {x4 : Int32}
    (h : Q (.inl (some (.int (0 : Int32)))) (I, J, rf_w r, sh_w N, n)) :
    mc_WP (32, 9, [.ref 10, .int x1, .int x2, .int x3, .int x4, .null], [], (I, J, rf_w r, sh_w N, n), (3, 18)) Q := by
  exact (mc_WP.run (mc_adjs _) 1 (mc_WP.run (mc_adjs _) 2 h))
-- 33 set(LPaletteReel;IIIIZ)I inl<=6
set_option maxRecDepth 20000 in
theorem bk_33_0 {x1 : Int32} {x2 : Int32} {x3 : Int32} {x4 : Int32} {x5 : Int32}
    (h : ∃ R : mc_Q, mc_WP (mc_en 5 [.ref 10, .int x1, .int x2, .int x3, .int x4, .int x5] (I, J, rf_w r, sh_w N, n)) R ∧ (∀ v t, R (.inl v) t → mc_WP (33, 11, [.ref 10, .int x1, .int x2, .int x3, .int x4, .int x5, .null], v.toList ++ [], t, (2, 12)) Q) ∧ (∀ k t, R (.inr k) t → mc_out 33 (pg_hd 33 8 k) Q k t)) :
    mc_WP (mc_en 33 [.ref 10, .int x1, .int x2, .int x3, .int x4, .int x5] (I, J, rf_w r, sh_w N, n)) Q := by
  exact (mc_WP.run (mc_adjs _) 7 (And.intro rfl (And.intro (by decide) (And.intro (by decide) h))))
set_option maxRecDepth 20000 in
theorem bk_33_11 {x1 : Int32} {x2 : Int32} {x3 : Int32} {x4 : Int32} {x5 : Int32}
    (h : Q (.inl (some (.int (0 : Int32)))) (I, J, rf_w r, sh_w N, n)) :
    mc_WP (33, 11, [.ref 10, .int x1, .int x2, .int x3, .int x4, .int x5, .null], [], (I, J, rf_w r, sh_w N, n), (2, 12)) Q := by
  exact (mc_WP.run (mc_adjs _) 1 (mc_WP.run (mc_adjs _) 2 h))
-- 34 get(LPaletteReel;II[J)I inl<=6
set_option maxRecDepth 20000 in
theorem bk_34_0 {x1 : Int32} {x2 : Int32} {a3 : Nat} {a3z : Nat} (ha3 : sh_w N a3 = (4, a3z))
    (h : ∃ R : mc_Q, mc_WP (mc_en 6 [.ref 10, .int x1, .int x2] (I, J, rf_w r, sh_w N, n)) R ∧ (∀ v t, R (.inl v) t → mc_WP (34, 8, [.ref 10, .int x1, .int x2, .ref a3, .null], v.toList ++ [.int (0 : Int32), .ref a3], t, (2, 12)) Q) ∧ (∀ k t, R (.inr k) t → mc_out 34 (pg_hd 34 5 k) Q k t)) :
    mc_WP (mc_en 34 [.ref 10, .int x1, .int x2, .ref a3] (I, J, rf_w r, sh_w N, n)) Q := by
  exact (mc_WP.run (mc_adjs _) 6 (And.intro rfl (And.intro (by decide) (And.intro (by decide) h))))
set_option maxRecDepth 20000 in
theorem bk_34_8 {x1 : Int32} {x2 : Int32} {a3 : Nat} {a3z : Nat} {b0 : Nat} {b0z : Nat} {y1 : Int32} {y2 : Int32} (ha3 : sh_w N a3 = (4, a3z)) (hb0 : sh_w N b0 = (4, b0z)) (gb0 : 10 ≤ b0)
    (h : vp_in y1 b0z ∧ Q (.inl (some (.int (0 : Int32)))) (I, (mc_up J b0 y1.toNatClampNeg y2.toInt64), rf_w r, sh_w N, n)) :
    mc_WP (34, 8, [.ref 10, .int x1, .int x2, .ref a3, .null], [.int y2, .int y1, .ref b0], (I, J, rf_w r, sh_w N, n), (2, 12)) Q := by
  exact (mc_WP.run (mc_adjs _) 3 (And.intro (wl_stl hb0 h.1 gb0) (mc_WP.run (mc_adjs _) 2 h.2)))
-- 35 colourAt(LPaletteReel;II[J)I inl<=6
set_option maxRecDepth 20000 in
theorem bk_35_0 {x1 : Int32} {x2 : Int32} {a3 : Nat} {a3z : Nat} (ha3 : sh_w N a3 = (4, a3z))
    (h : ∃ R : mc_Q, mc_WP (mc_en 7 [.ref 10, .int x1, .int x2] (I, J, rf_w r, sh_w N, n)) R ∧ (∀ v t, R (.inl v) t → mc_WP (35, 8, [.ref 10, .int x1, .int x2, .ref a3, .null], v.toList ++ [.int (0 : Int32), .ref a3], t, (2, 12)) Q) ∧ (∀ k t, R (.inr k) t → mc_out 35 (pg_hd 35 5 k) Q k t)) :
    mc_WP (mc_en 35 [.ref 10, .int x1, .int x2, .ref a3] (I, J, rf_w r, sh_w N, n)) Q := by
  exact (mc_WP.run (mc_adjs _) 6 (And.intro rfl (And.intro (by decide) (And.intro (by decide) h))))
set_option maxRecDepth 20000 in
theorem bk_35_8 {x1 : Int32} {x2 : Int32} {a3 : Nat} {a3z : Nat} {b0 : Nat} {b0z : Nat} {y1 : Int32} {y2 : Int32} (ha3 : sh_w N a3 = (4, a3z)) (hb0 : sh_w N b0 = (4, b0z)) (gb0 : 10 ≤ b0)
    (h : vp_in y1 b0z ∧ Q (.inl (some (.int (0 : Int32)))) (I, (mc_up J b0 y1.toNatClampNeg y2.toInt64), rf_w r, sh_w N, n)) :
    mc_WP (35, 8, [.ref 10, .int x1, .int x2, .ref a3, .null], [.int y2, .int y1, .ref b0], (I, J, rf_w r, sh_w N, n), (2, 12)) Q := by
  exact (mc_WP.run (mc_adjs _) 3 (And.intro (wl_stl hb0 h.1 gb0) (mc_WP.run (mc_adjs _) 2 h.2)))
-- 36 pixelAt(LPaletteReel;III[J)I inl<=6
set_option maxRecDepth 20000 in
theorem bk_36_0 {x1 : Int32} {x2 : Int32} {x3 : Int32} {a4 : Nat} {a4z : Nat} (ha4 : sh_w N a4 = (4, a4z))
    (h : ∃ R : mc_Q, mc_WP (mc_en 8 [.ref 10, .int x1, .int x2, .int x3] (I, J, rf_w r, sh_w N, n)) R ∧ (∀ v t, R (.inl v) t → mc_WP (36, 10, [.ref 10, .int x1, .int x2, .int x3, .ref a4, .null], v.toList ++ [.int (0 : Int32), .ref a4], t, (2, 12)) Q) ∧ (∀ k t, R (.inr k) t → mc_out 36 (pg_hd 36 7 k) Q k t)) :
    mc_WP (mc_en 36 [.ref 10, .int x1, .int x2, .int x3, .ref a4] (I, J, rf_w r, sh_w N, n)) Q := by
  exact (mc_WP.run (mc_adjs _) 7 (And.intro rfl (And.intro (by decide) (And.intro (by decide) h))))
set_option maxRecDepth 20000 in
theorem bk_36_10 {x1 : Int32} {x2 : Int32} {x3 : Int32} {a4 : Nat} {a4z : Nat} {b0 : Nat} {b0z : Nat} {y1 : Int32} {y2 : Int32} (ha4 : sh_w N a4 = (4, a4z)) (hb0 : sh_w N b0 = (4, b0z)) (gb0 : 10 ≤ b0)
    (h : vp_in y1 b0z ∧ Q (.inl (some (.int (0 : Int32)))) (I, (mc_up J b0 y1.toNatClampNeg y2.toInt64), rf_w r, sh_w N, n)) :
    mc_WP (36, 10, [.ref 10, .int x1, .int x2, .int x3, .ref a4, .null], [.int y2, .int y1, .ref b0], (I, J, rf_w r, sh_w N, n), (2, 12)) Q := by
  exact (mc_WP.run (mc_adjs _) 3 (And.intro (wl_stl hb0 h.1 gb0) (mc_WP.run (mc_adjs _) 2 h.2)))
-- 37 read(LPaletteReel;[J)I inl<=6
set_option maxRecDepth 20000 in
theorem bk_37_0 {a1 : Nat} {a1z : Nat} (ha1 : sh_w N a1 = (4, a1z))
    (h : ∃ R : mc_Q, mc_WP (mc_en 9 [.ref 10] (I, J, rf_w r, sh_w N, n)) R ∧ (∀ v t, R (.inl v) t → mc_WP (37, 6, [.ref 10, .ref a1, .null], v.toList ++ [.int (0 : Int32), .ref a1], t, (1, 6)) Q) ∧ (∀ k t, R (.inr k) t → mc_out 37 (pg_hd 37 3 k) Q k t)) :
    mc_WP (mc_en 37 [.ref 10, .ref a1] (I, J, rf_w r, sh_w N, n)) Q := by
  exact (mc_WP.run (mc_adjs _) 4 (And.intro rfl (And.intro (by decide) (And.intro (by decide) h))))
set_option maxRecDepth 20000 in
theorem bk_37_6 {a1 : Nat} {a1z : Nat} {b0 : Nat} {b0z : Nat} {y1 : Int32} {y2 : Int32} (ha1 : sh_w N a1 = (4, a1z)) (hb0 : sh_w N b0 = (4, b0z)) (gb0 : 10 ≤ b0)
    (h : vp_in y1 b0z ∧ Q (.inl (some (.int (0 : Int32)))) (I, (mc_up J b0 y1.toNatClampNeg y2.toInt64), rf_w r, sh_w N, n)) :
    mc_WP (37, 6, [.ref 10, .ref a1, .null], [.int y2, .int y1, .ref b0], (I, J, rf_w r, sh_w N, n), (1, 6)) Q := by
  exact (mc_WP.run (mc_adjs _) 3 (And.intro (wl_stl hb0 h.1 gb0) (mc_WP.run (mc_adjs _) 2 h.2)))
-- 38 draw(LPaletteReel;I[J)I inl<=6
set_option maxRecDepth 20000 in
theorem bk_38_0 {x1 : Int32} {a2 : Nat} {a2z : Nat} (ha2 : sh_w N a2 = (4, a2z))
    (h : ∃ R : mc_Q, mc_WP (mc_en 10 [.ref 10, .int x1] (I, J, rf_w r, sh_w N, n)) R ∧ (∀ v t, R (.inl v) t → mc_WP (38, 7, [.ref 10, .int x1, .ref a2, .null], v.toList ++ [.int (0 : Int32), .ref a2], t, (1, 6)) Q) ∧ (∀ k t, R (.inr k) t → mc_out 38 (pg_hd 38 4 k) Q k t)) :
    mc_WP (mc_en 38 [.ref 10, .int x1, .ref a2] (I, J, rf_w r, sh_w N, n)) Q := by
  exact (mc_WP.run (mc_adjs _) 5 (And.intro rfl (And.intro (by decide) (And.intro (by decide) h))))
set_option maxRecDepth 20000 in
theorem bk_38_7 {x1 : Int32} {a2 : Nat} {a2z : Nat} {b0 : Nat} {b0z : Nat} {y1 : Int32} {y2 : Int32} (ha2 : sh_w N a2 = (4, a2z)) (hb0 : sh_w N b0 = (4, b0z)) (gb0 : 10 ≤ b0)
    (h : vp_in y1 b0z ∧ Q (.inl (some (.int (0 : Int32)))) (I, (mc_up J b0 y1.toNatClampNeg y2.toInt64), rf_w r, sh_w N, n)) :
    mc_WP (38, 7, [.ref 10, .int x1, .ref a2, .null], [.int y2, .int y1, .ref b0], (I, J, rf_w r, sh_w N, n), (1, 6)) Q := by
  exact (mc_WP.run (mc_adjs _) 3 (And.intro (wl_stl hb0 h.1 gb0) (mc_WP.run (mc_adjs _) 2 h.2)))
-- 39 shown(LPaletteReel;II[J)I inl<=6
set_option maxRecDepth 20000 in
theorem bk_39_0 {x1 : Int32} {x2 : Int32} {a3 : Nat} {a3z : Nat} (ha3 : sh_w N a3 = (4, a3z))
    (h : ∃ R : mc_Q, mc_WP (mc_en 11 [.ref 10, .int x1, .int x2] (I, J, rf_w r, sh_w N, n)) R ∧ (∀ v t, R (.inl v) t → mc_WP (39, 8, [.ref 10, .int x1, .int x2, .ref a3, .null], v.toList ++ [.int (0 : Int32), .ref a3], t, (1, 6)) Q) ∧ (∀ k t, R (.inr k) t → mc_out 39 (pg_hd 39 5 k) Q k t)) :
    mc_WP (mc_en 39 [.ref 10, .int x1, .int x2, .ref a3] (I, J, rf_w r, sh_w N, n)) Q := by
  exact (mc_WP.run (mc_adjs _) 6 (And.intro rfl (And.intro (by decide) (And.intro (by decide) h))))
set_option maxRecDepth 20000 in
theorem bk_39_8 {x1 : Int32} {x2 : Int32} {a3 : Nat} {a3z : Nat} {b0 : Nat} {b0z : Nat} {y1 : Int32} {y2 : Int32} (ha3 : sh_w N a3 = (4, a3z)) (hb0 : sh_w N b0 = (4, b0z)) (gb0 : 10 ≤ b0)
    (h : vp_in y1 b0z ∧ Q (.inl (some (.int (0 : Int32)))) (I, (mc_up J b0 y1.toNatClampNeg y2.toInt64), rf_w r, sh_w N, n)) :
    mc_WP (39, 8, [.ref 10, .int x1, .int x2, .ref a3, .null], [.int y2, .int y1, .ref b0], (I, J, rf_w r, sh_w N, n), (1, 6)) Q := by
  exact (mc_WP.run (mc_adjs _) 3 (And.intro (wl_stl hb0 h.1 gb0) (mc_WP.run (mc_adjs _) 2 h.2)))
-- 40 paint(LPaletteReel;III)I inl<=6
set_option maxRecDepth 20000 in
theorem bk_40_0 {x1 : Int32} {x2 : Int32} {x3 : Int32}
    (h : ∃ R : mc_Q, mc_WP (mc_en 12 [.ref 10, .int x1, .int x2, .int x3] (I, J, rf_w r, sh_w N, n)) R ∧ (∀ v t, R (.inl v) t → mc_WP (40, 7, [.ref 10, .int x1, .int x2, .int x3, .null], v.toList ++ [], t, (1, 6)) Q) ∧ (∀ k t, R (.inr k) t → mc_out 40 (pg_hd 40 4 k) Q k t)) :
    mc_WP (mc_en 40 [.ref 10, .int x1, .int x2, .int x3] (I, J, rf_w r, sh_w N, n)) Q := by
  exact (mc_WP.run (mc_adjs _) 5 (And.intro rfl (And.intro (by decide) (And.intro (by decide) h))))
set_option maxRecDepth 20000 in
theorem bk_40_7 {x1 : Int32} {x2 : Int32} {x3 : Int32}
    (h : Q (.inl (some (.int (0 : Int32)))) (I, J, rf_w r, sh_w N, n)) :
    mc_WP (40, 7, [.ref 10, .int x1, .int x2, .int x3, .null], [], (I, J, rf_w r, sh_w N, n), (1, 6)) Q := by
  exact (mc_WP.run (mc_adjs _) 1 (mc_WP.run (mc_adjs _) 2 h))
-- 41 reduce(LPaletteReel;II[J)I inl<=6
set_option maxRecDepth 20000 in
theorem bk_41_0 {x1 : Int32} {x2 : Int32} {a3 : Nat} {a3z : Nat} (ha3 : sh_w N a3 = (4, a3z))
    (h : ∃ R : mc_Q, mc_WP (mc_en 13 [.ref 10, .int x1, .int x2] (I, J, rf_w r, sh_w N, n)) R ∧ (∀ v t, R (.inl v) t → mc_WP (41, 8, [.ref 10, .int x1, .int x2, .ref a3, .null], v.toList ++ [.int (0 : Int32), .ref a3], t, (2, 12)) Q) ∧ (∀ k t, R (.inr k) t → mc_out 41 (pg_hd 41 5 k) Q k t)) :
    mc_WP (mc_en 41 [.ref 10, .int x1, .int x2, .ref a3] (I, J, rf_w r, sh_w N, n)) Q := by
  exact (mc_WP.run (mc_adjs _) 6 (And.intro rfl (And.intro (by decide) (And.intro (by decide) h))))
set_option maxRecDepth 20000 in
theorem bk_41_8 {x1 : Int32} {x2 : Int32} {a3 : Nat} {a3z : Nat} {b0 : Nat} {b0z : Nat} {y1 : Int32} {y2 : Int32} (ha3 : sh_w N a3 = (4, a3z)) (hb0 : sh_w N b0 = (4, b0z)) (gb0 : 10 ≤ b0)
    (h : vp_in y1 b0z ∧ Q (.inl (some (.int (0 : Int32)))) (I, (mc_up J b0 y1.toNatClampNeg y2.toInt64), rf_w r, sh_w N, n)) :
    mc_WP (41, 8, [.ref 10, .int x1, .int x2, .ref a3, .null], [.int y2, .int y1, .ref b0], (I, J, rf_w r, sh_w N, n), (2, 12)) Q := by
  exact (mc_WP.run (mc_adjs _) 3 (And.intro (wl_stl hb0 h.1 gb0) (mc_WP.run (mc_adjs _) 2 h.2)))
-- 42 law([I)Z inl<=1
set_option maxRecDepth 20000 in
theorem bk_42_43 {x4 : Int32} {x5 : Value} {x6 : Value} {u : mc_U}
    (h : (((Int32.ofNat N) - (6 : Int32)) < x4 → (Q (.inl (some (.int (1 : Int32)))) (I, J, rf_w r, sh_w N, n))) ∧
        (¬ (((Int32.ofNat N) - (6 : Int32)) < x4) →
        (vp_in x4 N ∧ (((I 1 x4.toNatClampNeg) &&& (31 : Int32)).toInt = 0 → (mc_WP (42, 156, [.ref 1, .ref 10, .ref 84, .ref 105, .int x4, x5, x6], [], (I, J, rf_w r, sh_w N, n), u) Q)) ∧
          (¬ ((I 1 x4.toNatClampNeg) &&& (31 : Int32)).toInt = 0 → ((((I 1 x4.toNatClampNeg) &&& (31 : Int32)).toInt = 1 → (mc_WP (42, 224, [.ref 1, .ref 10, .ref 84, .ref 105, .int x4, x5, x6], [], (I, J, rf_w r, sh_w N, n), u) Q)) ∧
          (¬ ((I 1 x4.toNatClampNeg) &&& (31 : Int32)).toInt = 1 → ((((I 1 x4.toNatClampNeg) &&& (31 : Int32)).toInt = 2 → (mc_WP (42, 284, [.ref 1, .ref 10, .ref 84, .ref 105, .int x4, x5, x6], [], (I, J, rf_w r, sh_w N, n), u) Q)) ∧
          (¬ ((I 1 x4.toNatClampNeg) &&& (31 : Int32)).toInt = 2 → ((((I 1 x4.toNatClampNeg) &&& (31 : Int32)).toInt = 3 → (mc_WP (42, 376, [.ref 1, .ref 10, .ref 84, .ref 105, .int x4, x5, x6], [], (I, J, rf_w r, sh_w N, n), u) Q)) ∧
          (¬ ((I 1 x4.toNatClampNeg) &&& (31 : Int32)).toInt = 3 → ((((I 1 x4.toNatClampNeg) &&& (31 : Int32)).toInt = 4 → (mc_WP (42, 448, [.ref 1, .ref 10, .ref 84, .ref 105, .int x4, x5, x6], [], (I, J, rf_w r, sh_w N, n), u) Q)) ∧
          (¬ ((I 1 x4.toNatClampNeg) &&& (31 : Int32)).toInt = 4 → ((((I 1 x4.toNatClampNeg) &&& (31 : Int32)).toInt = 5 → (mc_WP (42, 548, [.ref 1, .ref 10, .ref 84, .ref 105, .int x4, x5, x6], [], (I, J, rf_w r, sh_w N, n), u) Q)) ∧
          (¬ ((I 1 x4.toNatClampNeg) &&& (31 : Int32)).toInt = 5 → ((((I 1 x4.toNatClampNeg) &&& (31 : Int32)).toInt = 6 → (mc_WP (42, 561, [.ref 1, .ref 10, .ref 84, .ref 105, .int x4, x5, x6], [], (I, J, rf_w r, sh_w N, n), u) Q)) ∧
          (¬ ((I 1 x4.toNatClampNeg) &&& (31 : Int32)).toInt = 6 → ((((I 1 x4.toNatClampNeg) &&& (31 : Int32)).toInt = 7 → (mc_WP (42, 574, [.ref 1, .ref 10, .ref 84, .ref 105, .int x4, x5, x6], [], (I, J, rf_w r, sh_w N, n), u) Q)) ∧
          (¬ ((I 1 x4.toNatClampNeg) &&& (31 : Int32)).toInt = 7 → ((((I 1 x4.toNatClampNeg) &&& (31 : Int32)).toInt = 8 → (mc_WP (42, 642, [.ref 1, .ref 10, .ref 84, .ref 105, .int x4, x5, x6], [], (I, J, rf_w r, sh_w N, n), u) Q)) ∧
          (¬ ((I 1 x4.toNatClampNeg) &&& (31 : Int32)).toInt = 8 → ((((I 1 x4.toNatClampNeg) &&& (31 : Int32)).toInt = 9 → (mc_WP (42, 710, [.ref 1, .ref 10, .ref 84, .ref 105, .int x4, x5, x6], [], (I, J, rf_w r, sh_w N, n), u) Q)) ∧
          (¬ ((I 1 x4.toNatClampNeg) &&& (31 : Int32)).toInt = 9 → ((((I 1 x4.toNatClampNeg) &&& (31 : Int32)).toInt = 10 → (mc_WP (42, 790, [.ref 1, .ref 10, .ref 84, .ref 105, .int x4, x5, x6], [], (I, J, rf_w r, sh_w N, n), u) Q)) ∧
          (¬ ((I 1 x4.toNatClampNeg) &&& (31 : Int32)).toInt = 10 → ((((I 1 x4.toNatClampNeg) &&& (31 : Int32)).toInt = 11 → (mc_WP (42, 803, [.ref 1, .ref 10, .ref 84, .ref 105, .int x4, x5, x6], [], (I, J, rf_w r, sh_w N, n), u) Q)) ∧
          (¬ ((I 1 x4.toNatClampNeg) &&& (31 : Int32)).toInt = 11 → ((((I 1 x4.toNatClampNeg) &&& (31 : Int32)).toInt = 12 → (mc_WP (42, 872, [.ref 1, .ref 10, .ref 84, .ref 105, .int x4, x5, x6], [], (I, J, rf_w r, sh_w N, n), u) Q)) ∧
          (¬ ((I 1 x4.toNatClampNeg) &&& (31 : Int32)).toInt = 12 → ((((I 1 x4.toNatClampNeg) &&& (31 : Int32)).toInt = 13 → (mc_WP (42, 885, [.ref 1, .ref 10, .ref 84, .ref 105, .int x4, x5, x6], [], (I, J, rf_w r, sh_w N, n), u) Q)) ∧
          (¬ ((I 1 x4.toNatClampNeg) &&& (31 : Int32)).toInt = 13 → ((((I 1 x4.toNatClampNeg) &&& (31 : Int32)).toInt = 14 → (mc_WP (42, 922, [.ref 1, .ref 10, .ref 84, .ref 105, .int x4, x5, x6], [], (I, J, rf_w r, sh_w N, n), u) Q)) ∧
          (¬ ((I 1 x4.toNatClampNeg) &&& (31 : Int32)).toInt = 14 → ((((I 1 x4.toNatClampNeg) &&& (31 : Int32)).toInt = 15 → (mc_WP (42, 947, [.ref 1, .ref 10, .ref 84, .ref 105, .int x4, x5, x6], [], (I, J, rf_w r, sh_w N, n), u) Q)) ∧
          (¬ ((I 1 x4.toNatClampNeg) &&& (31 : Int32)).toInt = 15 → ((((I 1 x4.toNatClampNeg) &&& (31 : Int32)).toInt = 16 → (mc_WP (42, 991, [.ref 1, .ref 10, .ref 84, .ref 105, .int x4, x5, x6], [], (I, J, rf_w r, sh_w N, n), u) Q)) ∧
          (¬ ((I 1 x4.toNatClampNeg) &&& (31 : Int32)).toInt = 16 → ((((I 1 x4.toNatClampNeg) &&& (31 : Int32)).toInt = 17 → (mc_WP (42, 1047, [.ref 1, .ref 10, .ref 84, .ref 105, .int x4, x5, x6], [], (I, J, rf_w r, sh_w N, n), u) Q)) ∧
          (¬ ((I 1 x4.toNatClampNeg) &&& (31 : Int32)).toInt = 17 → ((((I 1 x4.toNatClampNeg) &&& (31 : Int32)).toInt = 18 → (mc_WP (42, 1115, [.ref 1, .ref 10, .ref 84, .ref 105, .int x4, x5, x6], [], (I, J, rf_w r, sh_w N, n), u) Q)) ∧
          (¬ ((I 1 x4.toNatClampNeg) &&& (31 : Int32)).toInt = 18 → ((((I 1 x4.toNatClampNeg) &&& (31 : Int32)).toInt = 19 → (mc_WP (42, 1175, [.ref 1, .ref 10, .ref 84, .ref 105, .int x4, x5, x6], [], (I, J, rf_w r, sh_w N, n), u) Q)) ∧
          (¬ ((I 1 x4.toNatClampNeg) &&& (31 : Int32)).toInt = 19 → (mc_WP (42, 43, [.ref 1, .ref 10, .ref 84, .ref 105, .int (x4 + (6 : Int32)), x5, x6], [], (I, J, rf_w r, sh_w N, n), u) Q))))))))))))))))))))))))))))))))))))))))))) :
    mc_WP (42, 43, [.ref 1, .ref 10, .ref 84, .ref 105, .int x4, x5, x6], [], (I, J, rf_w r, sh_w N, n), u) Q := by
  exact (mc_WP.run (mc_adjs _) 6 (And.intro (wl_len rfl (by decide) (by decide)) (And.intro (fun c5 => (mc_WP.run (mc_adjs _) 2 (And.intro (by decide) (h.1 c5)))) (fun c5 => (mc_WP.run (mc_adjs _) 6 (And.intro (wl_ld rfl (h.2 c5).1) (And.intro (fun c6 => ((h.2 c5).2.1 c6)) (fun c6 => (And.intro (fun c7 => (((h.2 c5).2.2 c6).1 c7)) (fun c7 => (And.intro (fun c8 => ((((h.2 c5).2.2 c6).2 c7).1 c8)) (fun c8 => (And.intro (fun c9 => (((((h.2 c5).2.2 c6).2 c7).2 c8).1 c9)) (fun c9 => (And.intro (fun c10 => ((((((h.2 c5).2.2 c6).2 c7).2 c8).2 c9).1 c10)) (fun c10 => (And.intro (fun c11 => (((((((h.2 c5).2.2 c6).2 c7).2 c8).2 c9).2 c10).1 c11)) (fun c11 => (And.intro (fun c12 => ((((((((h.2 c5).2.2 c6).2 c7).2 c8).2 c9).2 c10).2 c11).1 c12)) (fun c12 => (And.intro (fun c13 => (((((((((h.2 c5).2.2 c6).2 c7).2 c8).2 c9).2 c10).2 c11).2 c12).1 c13)) (fun c13 => (And.intro (fun c14 => ((((((((((h.2 c5).2.2 c6).2 c7).2 c8).2 c9).2 c10).2 c11).2 c12).2 c13).1 c14)) (fun c14 => (And.intro (fun c15 => (((((((((((h.2 c5).2.2 c6).2 c7).2 c8).2 c9).2 c10).2 c11).2 c12).2 c13).2 c14).1 c15)) (fun c15 => (And.intro (fun c16 => ((((((((((((h.2 c5).2.2 c6).2 c7).2 c8).2 c9).2 c10).2 c11).2 c12).2 c13).2 c14).2 c15).1 c16)) (fun c16 => (And.intro (fun c17 => (((((((((((((h.2 c5).2.2 c6).2 c7).2 c8).2 c9).2 c10).2 c11).2 c12).2 c13).2 c14).2 c15).2 c16).1 c17)) (fun c17 => (And.intro (fun c18 => ((((((((((((((h.2 c5).2.2 c6).2 c7).2 c8).2 c9).2 c10).2 c11).2 c12).2 c13).2 c14).2 c15).2 c16).2 c17).1 c18)) (fun c18 => (And.intro (fun c19 => (((((((((((((((h.2 c5).2.2 c6).2 c7).2 c8).2 c9).2 c10).2 c11).2 c12).2 c13).2 c14).2 c15).2 c16).2 c17).2 c18).1 c19)) (fun c19 => (And.intro (fun c20 => ((((((((((((((((h.2 c5).2.2 c6).2 c7).2 c8).2 c9).2 c10).2 c11).2 c12).2 c13).2 c14).2 c15).2 c16).2 c17).2 c18).2 c19).1 c20)) (fun c20 => (And.intro (fun c21 => (((((((((((((((((h.2 c5).2.2 c6).2 c7).2 c8).2 c9).2 c10).2 c11).2 c12).2 c13).2 c14).2 c15).2 c16).2 c17).2 c18).2 c19).2 c20).1 c21)) (fun c21 => (And.intro (fun c22 => ((((((((((((((((((h.2 c5).2.2 c6).2 c7).2 c8).2 c9).2 c10).2 c11).2 c12).2 c13).2 c14).2 c15).2 c16).2 c17).2 c18).2 c19).2 c20).2 c21).1 c22)) (fun c22 => (And.intro (fun c23 => (((((((((((((((((((h.2 c5).2.2 c6).2 c7).2 c8).2 c9).2 c10).2 c11).2 c12).2 c13).2 c14).2 c15).2 c16).2 c17).2 c18).2 c19).2 c20).2 c21).2 c22).1 c23)) (fun c23 => (And.intro (fun c24 => ((((((((((((((((((((h.2 c5).2.2 c6).2 c7).2 c8).2 c9).2 c10).2 c11).2 c12).2 c13).2 c14).2 c15).2 c16).2 c17).2 c18).2 c19).2 c20).2 c21).2 c22).2 c23).1 c24)) (fun c24 => (And.intro (fun c25 => (((((((((((((((((((((h.2 c5).2.2 c6).2 c7).2 c8).2 c9).2 c10).2 c11).2 c12).2 c13).2 c14).2 c15).2 c16).2 c17).2 c18).2 c19).2 c20).2 c21).2 c22).2 c23).2 c24).1 c25)) (fun c25 => (mc_WP.run (mc_adjs _) 2 (((((((((((((((((((((h.2 c5).2.2 c6).2 c7).2 c8).2 c9).2 c10).2 c11).2 c12).2 c13).2 c14).2 c15).2 c16).2 c17).2 c18).2 c19).2 c20).2 c21).2 c22).2 c23).2 c24).2 c25))))))))))))))))))))))))))))))))))))))))))))))))
set_option maxRecDepth 20000 in
theorem bk_42_156 {x4 : Int32} {x5 : Value} {x6 : Value} {u : mc_U}
    (h : vp_in (x4 + (1 : Int32)) N ∧ vp_in (x4 + (2 : Int32)) N ∧ u.1 + 2 ≤ 601024 ∧ u.2 + 12 ≤ 7293000 ∧ ∃ R : mc_Q, mc_WP (mc_en 29 [.ref 10, .int (I 1 (x4 + (1 : Int32)).toNatClampNeg), .int (I 1 (x4 + (2 : Int32)).toNatClampNeg), .ref 105] (I, J, rf_w r, sh_w N, n)) R ∧ (∀ v t, R (.inl v) t → mc_WP (42, 173, [.ref 1, .ref 10, .ref 84, .ref 105, .int x4, x5, x6], v.toList ++ [], t, (u.1 + 2, u.2 + 12)) Q) ∧ (∀ k t, R (.inr k) t → Q (.inr k) t)) :
    mc_WP (42, 156, [.ref 1, .ref 10, .ref 84, .ref 105, .int x4, x5, x6], [], (I, J, rf_w r, sh_w N, n), u) Q := by
  exact (mc_WP.run (mc_adjs _) 13 (And.intro (wl_ld rfl h.1) (And.intro (wl_ld rfl h.2.1) h.2.2)))
set_option maxRecDepth 20000 in
theorem bk_42_173 {x4 : Int32} {x5 : Value} {x6 : Value} {y0 : Int32} {u : mc_U}
    (h : vp_in (x4 + (1 : Int32)) N ∧ vp_in (x4 + (2 : Int32)) N ∧ u.1 + 0 ≤ 601024 ∧ u.2 + 0 ≤ 7293000 ∧ ∃ R : mc_Q, mc_WP (mc_en 63 [.ref 84, .int (I 1 (x4 + (1 : Int32)).toNatClampNeg), .int (I 1 (x4 + (2 : Int32)).toNatClampNeg)] (I, J, rf_w r, sh_w N, n)) R ∧ (∀ v t, R (.inl v) t → mc_WP (42, 191, [.ref 1, .ref 10, .ref 84, .ref 105, .int x4, .int y0, x6], v.toList ++ [], t, u) Q) ∧ (∀ k t, R (.inr k) t → Q (.inr k) t)) :
    mc_WP (42, 173, [.ref 1, .ref 10, .ref 84, .ref 105, .int x4, x5, x6], [.int y0], (I, J, rf_w r, sh_w N, n), u) Q := by
  exact (mc_WP.run (mc_adjs _) 13 (And.intro (wl_ld rfl h.1) (And.intro (wl_ld rfl h.2.1) (And.intro rfl h.2.2))))
set_option maxRecDepth 20000 in
theorem bk_42_191 {x4 : Int32} {x5 : Int32} {x6 : Value} {y0 : Int32} {u : mc_U}
    (h : u.1 + 0 ≤ 601024 ∧ u.2 + 0 ≤ 7293000 ∧ ((I 84 0) = x5 →
        ((¬ x5 = 0 →
          (mc_WP (42, 43, [.ref 1, .ref 10, .ref 84, .ref 105, .int (x4 + (6 : Int32)), .int x5, .int y0], [], (I, J, rf_w r, sh_w N, n), u) Q)) ∧
          (¬ (¬ x5 = 0) →
          (((lg_cmp (J 105 0) y0.toInt64) = 0 →
            (mc_WP (42, 43, [.ref 1, .ref 10, .ref 84, .ref 105, .int (x4 + (6 : Int32)), .int x5, .int y0], [], (I, J, rf_w r, sh_w N, n), u) Q)) ∧
            (¬ ((lg_cmp (J 105 0) y0.toInt64) = 0) → (Q (.inl (some (.int (0 : Int32)))) (I, J, rf_w r, sh_w N, n))))))) ∧
        (¬ ((I 84 0) = x5) → (Q (.inl (some (.int (0 : Int32)))) (I, J, rf_w r, sh_w N, n)))) :
    mc_WP (42, 191, [.ref 1, .ref 10, .ref 84, .ref 105, .int x4, .int x5, x6], [.int y0], (I, J, rf_w r, sh_w N, n), u) Q := by
  exact (mc_WP.run (mc_adjs _) 3 (And.intro rfl (And.intro h.1 (And.intro h.2.1 (mc_inl (mc_WP.run (mc_adjs _) 3 (And.intro rfl (mc_WP.run (mc_adjs _) 2 (And.intro (fun c12 => (mc_WP.run (mc_adjs _) 2 (And.intro (fun c13 => (mc_WP.run (mc_adjs _) 1 (mc_WP.run (mc_adjs _) 2 ((h.2.2.1 c12).1 c13)))) (fun c13 => (mc_WP.run (mc_adjs _) 7 (And.intro (wl_ldl rfl (show vp_in (0 : Int32) 1 by unfold vp_in; decide)) (And.intro (fun c14 => (mc_WP.run (mc_adjs _) 1 (mc_WP.run (mc_adjs _) 2 (((h.2.2.1 c12).2 c13).1 c14)))) (fun c14 => (mc_WP.run (mc_adjs _) 2 (And.intro (by decide) (((h.2.2.1 c12).2 c13).2 c14))))))))))) (fun c12 => (mc_WP.run (mc_adjs _) 2 (And.intro (by decide) (h.2.2.2 c12)))))))))))))
set_option maxRecDepth 20000 in
theorem bk_42_224 {x4 : Int32} {x5 : Value} {x6 : Value} {u : mc_U}
    (h : vp_in (x4 + (1 : Int32)) N ∧ vp_in (x4 + (2 : Int32)) N ∧ vp_in (x4 + (3 : Int32)) N ∧ u.1 + 2 ≤ 601024 ∧ u.2 + 12 ≤ 7293000 ∧ ∃ R : mc_Q, mc_WP (mc_en 30 [.ref 10, .int (I 1 (x4 + (1 : Int32)).toNatClampNeg), .int (I 1 (x4 + (2 : Int32)).toNatClampNeg), .int (I 1 (x4 + (3 : Int32)).toNatClampNeg)] (I, J, rf_w r, sh_w N, n)) R ∧ (∀ v t, R (.inl v) t → mc_WP (42, 246, [.ref 1, .ref 10, .ref 84, .ref 105, .int x4, x5, x6], v.toList ++ [], t, (u.1 + 2, u.2 + 12)) Q) ∧ (∀ k t, R (.inr k) t → Q (.inr k) t)) :
    mc_WP (42, 224, [.ref 1, .ref 10, .ref 84, .ref 105, .int x4, x5, x6], [], (I, J, rf_w r, sh_w N, n), u) Q := by
  exact (mc_WP.run (mc_adjs _) 17 (And.intro (wl_ld rfl h.1) (And.intro (wl_ld rfl h.2.1) (And.intro (wl_ld rfl h.2.2.1) h.2.2.2))))
set_option maxRecDepth 20000 in
theorem bk_42_246 {x4 : Int32} {x5 : Value} {x6 : Value} {y0 : Int32} {u : mc_U}
    (h : vp_in (x4 + (1 : Int32)) N ∧ vp_in (x4 + (2 : Int32)) N ∧ vp_in (x4 + (3 : Int32)) N ∧ u.1 + 0 ≤ 601024 ∧ u.2 + 0 ≤ 7293000 ∧ ∃ R : mc_Q, mc_WP (mc_en 64 [.ref 84, .int (I 1 (x4 + (1 : Int32)).toNatClampNeg), .int (I 1 (x4 + (2 : Int32)).toNatClampNeg), .int (I 1 (x4 + (3 : Int32)).toNatClampNeg)] (I, J, rf_w r, sh_w N, n)) R ∧ (∀ v t, R (.inl v) t → mc_WP (42, 270, [.ref 1, .ref 10, .ref 84, .ref 105, .int x4, .int y0, x6], v.toList ++ [], t, u) Q) ∧ (∀ k t, R (.inr k) t → Q (.inr k) t)) :
    mc_WP (42, 246, [.ref 1, .ref 10, .ref 84, .ref 105, .int x4, x5, x6], [.int y0], (I, J, rf_w r, sh_w N, n), u) Q := by
  exact (mc_WP.run (mc_adjs _) 18 (And.intro (wl_ld rfl h.1) (And.intro (wl_ld rfl h.2.1) (And.intro (wl_ld rfl h.2.2.1) (And.intro rfl h.2.2.2)))))
set_option maxRecDepth 20000 in
theorem bk_42_270 {x4 : Int32} {x5 : Int32} {x6 : Value} {u : mc_U}
    (h : u.1 + 0 ≤ 601024 ∧ u.2 + 0 ≤ 7293000 ∧ ((I 84 0) = x5 →
        (mc_WP (42, 43, [.ref 1, .ref 10, .ref 84, .ref 105, .int (x4 + (6 : Int32)), .int x5, x6], [], (I, J, rf_w r, sh_w N, n), u) Q)) ∧
        (¬ ((I 84 0) = x5) → (Q (.inl (some (.int (0 : Int32)))) (I, J, rf_w r, sh_w N, n)))) :
    mc_WP (42, 270, [.ref 1, .ref 10, .ref 84, .ref 105, .int x4, .int x5, x6], [], (I, J, rf_w r, sh_w N, n), u) Q := by
  exact (mc_WP.run (mc_adjs _) 2 (And.intro rfl (And.intro h.1 (And.intro h.2.1 (mc_inl (mc_WP.run (mc_adjs _) 3 (And.intro rfl (mc_WP.run (mc_adjs _) 2 (And.intro (fun c7 => (mc_WP.run (mc_adjs _) 1 (mc_WP.run (mc_adjs _) 2 (h.2.2.1 c7)))) (fun c7 => (mc_WP.run (mc_adjs _) 2 (And.intro (by decide) (h.2.2.2 c7)))))))))))))
set_option maxRecDepth 20000 in
theorem bk_42_284 {x4 : Int32} {x5 : Value} {x6 : Value} {u : mc_U}
    (h : vp_in (x4 + (1 : Int32)) N ∧ vp_in (x4 + (2 : Int32)) N ∧ vp_in (x4 + (3 : Int32)) N ∧ vp_in (x4 + (4 : Int32)) N ∧ u.1 + 2 ≤ 601024 ∧ u.2 + 12 ≤ 7293000 ∧ ∃ R : mc_Q, mc_WP (mc_en 31 [.ref 10, .int (I 1 (x4 + (1 : Int32)).toNatClampNeg), .int (I 1 (x4 + (2 : Int32)).toNatClampNeg), .int (I 1 (x4 + (3 : Int32)).toNatClampNeg), .int (I 1 (x4 + (4 : Int32)).toNatClampNeg), .ref 105] (I, J, rf_w r, sh_w N, n)) R ∧ (∀ v t, R (.inl v) t → mc_WP (42, 313, [.ref 1, .ref 10, .ref 84, .ref 105, .int x4, x5, x6], v.toList ++ [], t, (u.1 + 2, u.2 + 12)) Q) ∧ (∀ k t, R (.inr k) t → Q (.inr k) t)) :
    mc_WP (42, 284, [.ref 1, .ref 10, .ref 84, .ref 105, .int x4, x5, x6], [], (I, J, rf_w r, sh_w N, n), u) Q := by
  exact (mc_WP.run (mc_adjs _) 23 (And.intro (wl_ld rfl h.1) (And.intro (wl_ld rfl h.2.1) (And.intro (wl_ld rfl h.2.2.1) (And.intro (wl_ld rfl h.2.2.2.1) h.2.2.2.2)))))
set_option maxRecDepth 20000 in
theorem bk_42_313 {x4 : Int32} {x5 : Value} {x6 : Value} {y0 : Int32} {u : mc_U}
    (h : vp_in (x4 + (1 : Int32)) N ∧ vp_in (x4 + (2 : Int32)) N ∧ vp_in (x4 + (3 : Int32)) N ∧ vp_in (x4 + (4 : Int32)) N ∧ u.1 + 0 ≤ 601024 ∧ u.2 + 0 ≤ 7293000 ∧ ∃ R : mc_Q, mc_WP (mc_en 66 [.ref 84, .int (I 1 (x4 + (1 : Int32)).toNatClampNeg), .int (I 1 (x4 + (2 : Int32)).toNatClampNeg), .int (I 1 (x4 + (3 : Int32)).toNatClampNeg), .int (I 1 (x4 + (4 : Int32)).toNatClampNeg)] (I, J, rf_w r, sh_w N, n)) R ∧ (∀ v t, R (.inl v) t → mc_WP (42, 343, [.ref 1, .ref 10, .ref 84, .ref 105, .int x4, .int y0, x6], v.toList ++ [], t, u) Q) ∧ (∀ k t, R (.inr k) t → Q (.inr k) t)) :
    mc_WP (42, 313, [.ref 1, .ref 10, .ref 84, .ref 105, .int x4, x5, x6], [.int y0], (I, J, rf_w r, sh_w N, n), u) Q := by
  exact (mc_WP.run (mc_adjs _) 23 (And.intro (wl_ld rfl h.1) (And.intro (wl_ld rfl h.2.1) (And.intro (wl_ld rfl h.2.2.1) (And.intro (wl_ld rfl h.2.2.2.1) (And.intro rfl h.2.2.2.2))))))
set_option maxRecDepth 20000 in
theorem bk_42_343 {x4 : Int32} {x5 : Int32} {x6 : Value} {y0 : Int32} {u : mc_U}
    (h : u.1 + 0 ≤ 601024 ∧ u.2 + 0 ≤ 7293000 ∧ ((I 84 0) = x5 →
        ((¬ x5 = 0 →
          (mc_WP (42, 43, [.ref 1, .ref 10, .ref 84, .ref 105, .int (x4 + (6 : Int32)), .int x5, .int y0], [], (I, J, rf_w r, sh_w N, n), u) Q)) ∧
          (¬ (¬ x5 = 0) →
          (((lg_cmp (J 105 0) y0.toInt64) = 0 →
            (mc_WP (42, 43, [.ref 1, .ref 10, .ref 84, .ref 105, .int (x4 + (6 : Int32)), .int x5, .int y0], [], (I, J, rf_w r, sh_w N, n), u) Q)) ∧
            (¬ ((lg_cmp (J 105 0) y0.toInt64) = 0) → (Q (.inl (some (.int (0 : Int32)))) (I, J, rf_w r, sh_w N, n))))))) ∧
        (¬ ((I 84 0) = x5) → (Q (.inl (some (.int (0 : Int32)))) (I, J, rf_w r, sh_w N, n)))) :
    mc_WP (42, 343, [.ref 1, .ref 10, .ref 84, .ref 105, .int x4, .int x5, x6], [.int y0], (I, J, rf_w r, sh_w N, n), u) Q := by
  exact (mc_WP.run (mc_adjs _) 3 (And.intro rfl (And.intro h.1 (And.intro h.2.1 (mc_inl (mc_WP.run (mc_adjs _) 3 (And.intro rfl (mc_WP.run (mc_adjs _) 2 (And.intro (fun c12 => (mc_WP.run (mc_adjs _) 2 (And.intro (fun c13 => (mc_WP.run (mc_adjs _) 1 (mc_WP.run (mc_adjs _) 2 ((h.2.2.1 c12).1 c13)))) (fun c13 => (mc_WP.run (mc_adjs _) 7 (And.intro (wl_ldl rfl (show vp_in (0 : Int32) 1 by unfold vp_in; decide)) (And.intro (fun c14 => (mc_WP.run (mc_adjs _) 1 (mc_WP.run (mc_adjs _) 2 (((h.2.2.1 c12).2 c13).1 c14)))) (fun c14 => (mc_WP.run (mc_adjs _) 2 (And.intro (by decide) (((h.2.2.1 c12).2 c13).2 c14))))))))))) (fun c12 => (mc_WP.run (mc_adjs _) 2 (And.intro (by decide) (h.2.2.2 c12)))))))))))))
set_option maxRecDepth 20000 in
theorem bk_42_376 {x4 : Int32} {x5 : Value} {x6 : Value} {u : mc_U}
    (h : vp_in (x4 + (1 : Int32)) N ∧ vp_in (x4 + (2 : Int32)) N ∧ vp_in (x4 + (3 : Int32)) N ∧ vp_in (x4 + (4 : Int32)) N ∧ u.1 + 3 ≤ 601024 ∧ u.2 + 18 ≤ 7293000 ∧ ∃ R : mc_Q, mc_WP (mc_en 32 [.ref 10, .int (I 1 (x4 + (1 : Int32)).toNatClampNeg), .int (I 1 (x4 + (2 : Int32)).toNatClampNeg), .int (I 1 (x4 + (3 : Int32)).toNatClampNeg), .int (I 1 (x4 + (4 : Int32)).toNatClampNeg)] (I, J, rf_w r, sh_w N, n)) R ∧ (∀ v t, R (.inl v) t → mc_WP (42, 404, [.ref 1, .ref 10, .ref 84, .ref 105, .int x4, x5, x6], v.toList ++ [], t, (u.1 + 3, u.2 + 18)) Q) ∧ (∀ k t, R (.inr k) t → Q (.inr k) t)) :
    mc_WP (42, 376, [.ref 1, .ref 10, .ref 84, .ref 105, .int x4, x5, x6], [], (I, J, rf_w r, sh_w N, n), u) Q := by
  exact (mc_WP.run (mc_adjs _) 22 (And.intro (wl_ld rfl h.1) (And.intro (wl_ld rfl h.2.1) (And.intro (wl_ld rfl h.2.2.1) (And.intro (wl_ld rfl h.2.2.2.1) h.2.2.2.2)))))
set_option maxRecDepth 20000 in
theorem bk_42_404 {x4 : Int32} {x5 : Value} {x6 : Value} {y0 : Int32} {u : mc_U}
    (h : vp_in (x4 + (1 : Int32)) N ∧ vp_in (x4 + (2 : Int32)) N ∧ vp_in (x4 + (3 : Int32)) N ∧ vp_in (x4 + (4 : Int32)) N ∧ u.1 + 0 ≤ 601024 ∧ u.2 + 0 ≤ 7293000 ∧ ∃ R : mc_Q, mc_WP (mc_en 68 [.ref 84, .int (I 1 (x4 + (1 : Int32)).toNatClampNeg), .int (I 1 (x4 + (2 : Int32)).toNatClampNeg), .int (I 1 (x4 + (3 : Int32)).toNatClampNeg), .int (I 1 (x4 + (4 : Int32)).toNatClampNeg)] (I, J, rf_w r, sh_w N, n)) R ∧ (∀ v t, R (.inl v) t → mc_WP (42, 434, [.ref 1, .ref 10, .ref 84, .ref 105, .int x4, .int y0, x6], v.toList ++ [], t, u) Q) ∧ (∀ k t, R (.inr k) t → Q (.inr k) t)) :
    mc_WP (42, 404, [.ref 1, .ref 10, .ref 84, .ref 105, .int x4, x5, x6], [.int y0], (I, J, rf_w r, sh_w N, n), u) Q := by
  exact (mc_WP.run (mc_adjs _) 23 (And.intro (wl_ld rfl h.1) (And.intro (wl_ld rfl h.2.1) (And.intro (wl_ld rfl h.2.2.1) (And.intro (wl_ld rfl h.2.2.2.1) (And.intro rfl h.2.2.2.2))))))
set_option maxRecDepth 20000 in
theorem bk_42_434 {x4 : Int32} {x5 : Int32} {x6 : Value} {u : mc_U}
    (h : u.1 + 0 ≤ 601024 ∧ u.2 + 0 ≤ 7293000 ∧ ((I 84 0) = x5 →
        (mc_WP (42, 43, [.ref 1, .ref 10, .ref 84, .ref 105, .int (x4 + (6 : Int32)), .int x5, x6], [], (I, J, rf_w r, sh_w N, n), u) Q)) ∧
        (¬ ((I 84 0) = x5) → (Q (.inl (some (.int (0 : Int32)))) (I, J, rf_w r, sh_w N, n)))) :
    mc_WP (42, 434, [.ref 1, .ref 10, .ref 84, .ref 105, .int x4, .int x5, x6], [], (I, J, rf_w r, sh_w N, n), u) Q := by
  exact (mc_WP.run (mc_adjs _) 2 (And.intro rfl (And.intro h.1 (And.intro h.2.1 (mc_inl (mc_WP.run (mc_adjs _) 3 (And.intro rfl (mc_WP.run (mc_adjs _) 2 (And.intro (fun c7 => (mc_WP.run (mc_adjs _) 1 (mc_WP.run (mc_adjs _) 2 (h.2.2.1 c7)))) (fun c7 => (mc_WP.run (mc_adjs _) 2 (And.intro (by decide) (h.2.2.2 c7)))))))))))))
set_option maxRecDepth 20000 in
theorem bk_42_448 {x4 : Int32} {x5 : Value} {x6 : Value} {u : mc_U}
    (h : vp_in (x4 + (1 : Int32)) N ∧ vp_in (x4 + (2 : Int32)) N ∧ vp_in (x4 + (3 : Int32)) N ∧ vp_in (x4 + (4 : Int32)) N ∧ vp_in (x4 + (5 : Int32)) N ∧ ((I 1 (x4 + (5 : Int32)).toNatClampNeg) = 0 →
        (u.1 + 2 ≤ 601024 ∧ u.2 + 12 ≤ 7293000 ∧ ∃ R : mc_Q, mc_WP (mc_en 33 [.ref 10, .int (I 1 (x4 + (1 : Int32)).toNatClampNeg), .int (I 1 (x4 + (2 : Int32)).toNatClampNeg), .int (I 1 (x4 + (3 : Int32)).toNatClampNeg), .int (I 1 (x4 + (4 : Int32)).toNatClampNeg), .int (0 : Int32)] (I, J, rf_w r, sh_w N, n)) R ∧ (∀ v t, R (.inl v) t → mc_WP (42, 490, [.ref 1, .ref 10, .ref 84, .ref 105, .int x4, x5, x6], v.toList ++ [], t, (u.1 + 2, u.2 + 12)) Q) ∧ (∀ k t, R (.inr k) t → Q (.inr k) t))) ∧
        (¬ ((I 1 (x4 + (5 : Int32)).toNatClampNeg) = 0) →
        (u.1 + 2 ≤ 601024 ∧ u.2 + 12 ≤ 7293000 ∧ ∃ R : mc_Q, mc_WP (mc_en 33 [.ref 10, .int (I 1 (x4 + (1 : Int32)).toNatClampNeg), .int (I 1 (x4 + (2 : Int32)).toNatClampNeg), .int (I 1 (x4 + (3 : Int32)).toNatClampNeg), .int (I 1 (x4 + (4 : Int32)).toNatClampNeg), .int (1 : Int32)] (I, J, rf_w r, sh_w N, n)) R ∧ (∀ v t, R (.inl v) t → mc_WP (42, 490, [.ref 1, .ref 10, .ref 84, .ref 105, .int x4, x5, x6], v.toList ++ [], t, (u.1 + 2, u.2 + 12)) Q) ∧ (∀ k t, R (.inr k) t → Q (.inr k) t)))) :
    mc_WP (42, 448, [.ref 1, .ref 10, .ref 84, .ref 105, .int x4, x5, x6], [], (I, J, rf_w r, sh_w N, n), u) Q := by
  exact (mc_WP.run (mc_adjs _) 27 (And.intro (wl_ld rfl h.1) (And.intro (wl_ld rfl h.2.1) (And.intro (wl_ld rfl h.2.2.1) (And.intro (wl_ld rfl h.2.2.2.1) (And.intro (wl_ld rfl h.2.2.2.2.1) (And.intro (fun c5 => (mc_WP.run (mc_adjs _) 2 (h.2.2.2.2.2.1 c5))) (fun c5 => (mc_WP.run (mc_adjs _) 2 (mc_WP.run (mc_adjs _) 1 (h.2.2.2.2.2.2 c5)))))))))))
set_option maxRecDepth 20000 in
theorem bk_42_490 {x4 : Int32} {x5 : Value} {x6 : Value} {y0 : Int32} {u : mc_U}
    (h : vp_in (x4 + (1 : Int32)) N ∧ vp_in (x4 + (2 : Int32)) N ∧ vp_in (x4 + (3 : Int32)) N ∧ vp_in (x4 + (4 : Int32)) N ∧ vp_in (x4 + (5 : Int32)) N ∧ ((I 1 (x4 + (5 : Int32)).toNatClampNeg) = 0 →
        (u.1 + 0 ≤ 601024 ∧ u.2 + 0 ≤ 7293000 ∧ ∃ R : mc_Q, mc_WP (mc_en 69 [.ref 84, .int (I 1 (x4 + (1 : Int32)).toNatClampNeg), .int (I 1 (x4 + (2 : Int32)).toNatClampNeg), .int (I 1 (x4 + (3 : Int32)).toNatClampNeg), .int (I 1 (x4 + (4 : Int32)).toNatClampNeg), .int (0 : Int32)] (I, J, rf_w r, sh_w N, n)) R ∧ (∀ v t, R (.inl v) t → mc_WP (42, 534, [.ref 1, .ref 10, .ref 84, .ref 105, .int x4, .int y0, x6], v.toList ++ [], t, u) Q) ∧ (∀ k t, R (.inr k) t → Q (.inr k) t))) ∧
        (¬ ((I 1 (x4 + (5 : Int32)).toNatClampNeg) = 0) →
        (u.1 + 0 ≤ 601024 ∧ u.2 + 0 ≤ 7293000 ∧ ∃ R : mc_Q, mc_WP (mc_en 69 [.ref 84, .int (I 1 (x4 + (1 : Int32)).toNatClampNeg), .int (I 1 (x4 + (2 : Int32)).toNatClampNeg), .int (I 1 (x4 + (3 : Int32)).toNatClampNeg), .int (I 1 (x4 + (4 : Int32)).toNatClampNeg), .int (1 : Int32)] (I, J, rf_w r, sh_w N, n)) R ∧ (∀ v t, R (.inl v) t → mc_WP (42, 534, [.ref 1, .ref 10, .ref 84, .ref 105, .int x4, .int y0, x6], v.toList ++ [], t, u) Q) ∧ (∀ k t, R (.inr k) t → Q (.inr k) t)))) :
    mc_WP (42, 490, [.ref 1, .ref 10, .ref 84, .ref 105, .int x4, x5, x6], [.int y0], (I, J, rf_w r, sh_w N, n), u) Q := by
  exact (mc_WP.run (mc_adjs _) 28 (And.intro (wl_ld rfl h.1) (And.intro (wl_ld rfl h.2.1) (And.intro (wl_ld rfl h.2.2.1) (And.intro (wl_ld rfl h.2.2.2.1) (And.intro (wl_ld rfl h.2.2.2.2.1) (And.intro (fun c5 => (mc_WP.run (mc_adjs _) 2 (And.intro rfl (h.2.2.2.2.2.1 c5)))) (fun c5 => (mc_WP.run (mc_adjs _) 2 (mc_WP.run (mc_adjs _) 1 (And.intro rfl (h.2.2.2.2.2.2 c5))))))))))))
set_option maxRecDepth 20000 in
theorem bk_42_534 {x4 : Int32} {x5 : Int32} {x6 : Value} {u : mc_U}
    (h : u.1 + 0 ≤ 601024 ∧ u.2 + 0 ≤ 7293000 ∧ ((I 84 0) = x5 →
        (mc_WP (42, 43, [.ref 1, .ref 10, .ref 84, .ref 105, .int (x4 + (6 : Int32)), .int x5, x6], [], (I, J, rf_w r, sh_w N, n), u) Q)) ∧
        (¬ ((I 84 0) = x5) → (Q (.inl (some (.int (0 : Int32)))) (I, J, rf_w r, sh_w N, n)))) :
    mc_WP (42, 534, [.ref 1, .ref 10, .ref 84, .ref 105, .int x4, .int x5, x6], [], (I, J, rf_w r, sh_w N, n), u) Q := by
  exact (mc_WP.run (mc_adjs _) 2 (And.intro rfl (And.intro h.1 (And.intro h.2.1 (mc_inl (mc_WP.run (mc_adjs _) 3 (And.intro rfl (mc_WP.run (mc_adjs _) 2 (And.intro (fun c7 => (mc_WP.run (mc_adjs _) 1 (mc_WP.run (mc_adjs _) 2 (h.2.2.1 c7)))) (fun c7 => (mc_WP.run (mc_adjs _) 2 (And.intro (by decide) (h.2.2.2 c7)))))))))))))
set_option maxRecDepth 20000 in
theorem bk_42_548 {x4 : Int32} {x5 : Value} {x6 : Value} {u : mc_U} (hr : is_R r)
    (h : u.1 + 0 ≤ 601024 ∧ u.2 + 0 ≤ 7293000 ∧ u.1 + 0 ≤ 601024 ∧ u.2 + 0 ≤ 7293000 ∧ ((I r 4) = ((mc_up I r 4 (0 : Int32)) 84 1) →
        (mc_WP (42, 43, [.ref 1, .ref 10, .ref 84, .ref 105, .int (x4 + (6 : Int32)), x5, x6], [], ((mc_up (mc_up (mc_up I r 4 (0 : Int32)) 84 0 (0 : Int32)) 84 1 (0 : Int32)), J, rf_w r, sh_w N, n), u) Q)) ∧
        (¬ ((I r 4) = ((mc_up I r 4 (0 : Int32)) 84 1)) →
        (Q (.inl (some (.int (0 : Int32)))) ((mc_up (mc_up (mc_up I r 4 (0 : Int32)) 84 0 (0 : Int32)) 84 1 (0 : Int32)), J, rf_w r, sh_w N, n)))) :
    mc_WP (42, 548, [.ref 1, .ref 10, .ref 84, .ref 105, .int x4, x5, x6], [], (I, J, rf_w r, sh_w N, n), u) Q := by
  exact (mc_WP.run (mc_adjs _) 2 (And.intro rfl (And.intro h.1 (And.intro h.2.1 (mc_inl (mc_WP.run (mc_adjs _) 10 (And.intro ⟨rfl, (wd_R0 hr)⟩ (And.intro (wd_R (r := r) (N := N) hr).1 (And.intro ⟨rfl, (wd_R0 hr)⟩ (And.intro (wd_R (r := r) (N := N) hr).1 (mc_WP.run (mc_adjs _) 2 (And.intro rfl (And.intro h.2.2.1 (And.intro h.2.2.2.1 (mc_inl (mc_WP.run (mc_adjs _) 11 (And.intro rfl (And.intro rfl (And.intro rfl (mc_WP.run (mc_adjs _) 1 (And.intro (fun c8 => (mc_WP.run (mc_adjs _) 2 (h.2.2.2.2.1 c8))) (fun c8 => (mc_WP.run (mc_adjs _) 2 (And.intro (by decide) (h.2.2.2.2.2 c8)))))))))))))))))))))))))
set_option maxRecDepth 20000 in
theorem bk_42_561 {x4 : Int32} {x5 : Value} {x6 : Value} {u : mc_U} (hr : is_R r)
    (h : u.1 + 0 ≤ 601024 ∧ u.2 + 0 ≤ 7293000 ∧ u.1 + 0 ≤ 601024 ∧ u.2 + 0 ≤ 7293000 ∧ ((I r 4) = (I 84 1) →
        (mc_WP (42, 43, [.ref 1, .ref 10, .ref 84, .ref 105, .int (x4 + (6 : Int32)), x5, x6], [], ((mc_up I 84 0 (0 : Int32)), J, rf_w r, sh_w N, n), u) Q)) ∧
        (¬ ((I r 4) = (I 84 1)) →
        (Q (.inl (some (.int (0 : Int32)))) ((mc_up I 84 0 (0 : Int32)), J, rf_w r, sh_w N, n)))) :
    mc_WP (42, 561, [.ref 1, .ref 10, .ref 84, .ref 105, .int x4, x5, x6], [], (I, J, rf_w r, sh_w N, n), u) Q := by
  exact (mc_WP.run (mc_adjs _) 2 (And.intro rfl (And.intro h.1 (And.intro h.2.1 (mc_inl (mc_WP.run (mc_adjs _) 4 (And.intro ⟨rfl, (wd_R0 hr)⟩ (And.intro (wd_R (r := r) (N := N) hr).1 (mc_WP.run (mc_adjs _) 2 (And.intro rfl (And.intro h.2.2.1 (And.intro h.2.2.2.1 (mc_inl (mc_WP.run (mc_adjs _) 6 (And.intro rfl (And.intro rfl (mc_WP.run (mc_adjs _) 1 (And.intro (fun c8 => (mc_WP.run (mc_adjs _) 2 (h.2.2.2.2.1 c8))) (fun c8 => (mc_WP.run (mc_adjs _) 2 (And.intro (by decide) (h.2.2.2.2.2 c8))))))))))))))))))))))
set_option maxRecDepth 20000 in
theorem bk_42_574 {x4 : Int32} {x5 : Value} {x6 : Value} {u : mc_U}
    (h : vp_in (x4 + (1 : Int32)) N ∧ vp_in (x4 + (2 : Int32)) N ∧ u.1 + 2 ≤ 601024 ∧ u.2 + 12 ≤ 7293000 ∧ ∃ R : mc_Q, mc_WP (mc_en 34 [.ref 10, .int (I 1 (x4 + (1 : Int32)).toNatClampNeg), .int (I 1 (x4 + (2 : Int32)).toNatClampNeg), .ref 105] (I, J, rf_w r, sh_w N, n)) R ∧ (∀ v t, R (.inl v) t → mc_WP (42, 591, [.ref 1, .ref 10, .ref 84, .ref 105, .int x4, x5, x6], v.toList ++ [], t, (u.1 + 2, u.2 + 12)) Q) ∧ (∀ k t, R (.inr k) t → Q (.inr k) t)) :
    mc_WP (42, 574, [.ref 1, .ref 10, .ref 84, .ref 105, .int x4, x5, x6], [], (I, J, rf_w r, sh_w N, n), u) Q := by
  exact (mc_WP.run (mc_adjs _) 13 (And.intro (wl_ld rfl h.1) (And.intro (wl_ld rfl h.2.1) h.2.2)))
set_option maxRecDepth 20000 in
theorem bk_42_591 {x4 : Int32} {x5 : Value} {x6 : Value} {y0 : Int32} {u : mc_U}
    (h : vp_in (x4 + (1 : Int32)) N ∧ vp_in (x4 + (2 : Int32)) N ∧ u.1 + 0 ≤ 601024 ∧ u.2 + 0 ≤ 7293000 ∧ ∃ R : mc_Q, mc_WP (mc_en 72 [.ref 84, .int (I 1 (x4 + (1 : Int32)).toNatClampNeg), .int (I 1 (x4 + (2 : Int32)).toNatClampNeg)] (I, J, rf_w r, sh_w N, n)) R ∧ (∀ v t, R (.inl v) t → mc_WP (42, 609, [.ref 1, .ref 10, .ref 84, .ref 105, .int x4, .int y0, x6], v.toList ++ [], t, u) Q) ∧ (∀ k t, R (.inr k) t → Q (.inr k) t)) :
    mc_WP (42, 591, [.ref 1, .ref 10, .ref 84, .ref 105, .int x4, x5, x6], [.int y0], (I, J, rf_w r, sh_w N, n), u) Q := by
  exact (mc_WP.run (mc_adjs _) 13 (And.intro (wl_ld rfl h.1) (And.intro (wl_ld rfl h.2.1) (And.intro rfl h.2.2))))
set_option maxRecDepth 20000 in
theorem bk_42_609 {x4 : Int32} {x5 : Int32} {x6 : Value} {y0 : Int32} {u : mc_U}
    (h : u.1 + 0 ≤ 601024 ∧ u.2 + 0 ≤ 7293000 ∧ ((I 84 0) = x5 →
        ((¬ x5 = 0 →
          (mc_WP (42, 43, [.ref 1, .ref 10, .ref 84, .ref 105, .int (x4 + (6 : Int32)), .int x5, .int y0], [], (I, J, rf_w r, sh_w N, n), u) Q)) ∧
          (¬ (¬ x5 = 0) →
          (((lg_cmp (J 105 0) y0.toInt64) = 0 →
            (mc_WP (42, 43, [.ref 1, .ref 10, .ref 84, .ref 105, .int (x4 + (6 : Int32)), .int x5, .int y0], [], (I, J, rf_w r, sh_w N, n), u) Q)) ∧
            (¬ ((lg_cmp (J 105 0) y0.toInt64) = 0) → (Q (.inl (some (.int (0 : Int32)))) (I, J, rf_w r, sh_w N, n))))))) ∧
        (¬ ((I 84 0) = x5) → (Q (.inl (some (.int (0 : Int32)))) (I, J, rf_w r, sh_w N, n)))) :
    mc_WP (42, 609, [.ref 1, .ref 10, .ref 84, .ref 105, .int x4, .int x5, x6], [.int y0], (I, J, rf_w r, sh_w N, n), u) Q := by
  exact (mc_WP.run (mc_adjs _) 3 (And.intro rfl (And.intro h.1 (And.intro h.2.1 (mc_inl (mc_WP.run (mc_adjs _) 3 (And.intro rfl (mc_WP.run (mc_adjs _) 2 (And.intro (fun c12 => (mc_WP.run (mc_adjs _) 2 (And.intro (fun c13 => (mc_WP.run (mc_adjs _) 1 (mc_WP.run (mc_adjs _) 2 ((h.2.2.1 c12).1 c13)))) (fun c13 => (mc_WP.run (mc_adjs _) 7 (And.intro (wl_ldl rfl (show vp_in (0 : Int32) 1 by unfold vp_in; decide)) (And.intro (fun c14 => (mc_WP.run (mc_adjs _) 1 (mc_WP.run (mc_adjs _) 2 (((h.2.2.1 c12).2 c13).1 c14)))) (fun c14 => (mc_WP.run (mc_adjs _) 2 (And.intro (by decide) (((h.2.2.1 c12).2 c13).2 c14))))))))))) (fun c12 => (mc_WP.run (mc_adjs _) 2 (And.intro (by decide) (h.2.2.2 c12)))))))))))))
set_option maxRecDepth 20000 in
theorem bk_42_642 {x4 : Int32} {x5 : Value} {x6 : Value} {u : mc_U}
    (h : vp_in (x4 + (1 : Int32)) N ∧ vp_in (x4 + (2 : Int32)) N ∧ u.1 + 2 ≤ 601024 ∧ u.2 + 12 ≤ 7293000 ∧ ∃ R : mc_Q, mc_WP (mc_en 35 [.ref 10, .int (I 1 (x4 + (1 : Int32)).toNatClampNeg), .int (I 1 (x4 + (2 : Int32)).toNatClampNeg), .ref 105] (I, J, rf_w r, sh_w N, n)) R ∧ (∀ v t, R (.inl v) t → mc_WP (42, 659, [.ref 1, .ref 10, .ref 84, .ref 105, .int x4, x5, x6], v.toList ++ [], t, (u.1 + 2, u.2 + 12)) Q) ∧ (∀ k t, R (.inr k) t → Q (.inr k) t)) :
    mc_WP (42, 642, [.ref 1, .ref 10, .ref 84, .ref 105, .int x4, x5, x6], [], (I, J, rf_w r, sh_w N, n), u) Q := by
  exact (mc_WP.run (mc_adjs _) 13 (And.intro (wl_ld rfl h.1) (And.intro (wl_ld rfl h.2.1) h.2.2)))
set_option maxRecDepth 20000 in
theorem bk_42_659 {x4 : Int32} {x5 : Value} {x6 : Value} {y0 : Int32} {u : mc_U}
    (h : vp_in (x4 + (1 : Int32)) N ∧ vp_in (x4 + (2 : Int32)) N ∧ u.1 + 0 ≤ 601024 ∧ u.2 + 0 ≤ 7293000 ∧ ∃ R : mc_Q, mc_WP (mc_en 74 [.ref 84, .int (I 1 (x4 + (1 : Int32)).toNatClampNeg), .int (I 1 (x4 + (2 : Int32)).toNatClampNeg)] (I, J, rf_w r, sh_w N, n)) R ∧ (∀ v t, R (.inl v) t → mc_WP (42, 677, [.ref 1, .ref 10, .ref 84, .ref 105, .int x4, .int y0, x6], v.toList ++ [], t, u) Q) ∧ (∀ k t, R (.inr k) t → Q (.inr k) t)) :
    mc_WP (42, 659, [.ref 1, .ref 10, .ref 84, .ref 105, .int x4, x5, x6], [.int y0], (I, J, rf_w r, sh_w N, n), u) Q := by
  exact (mc_WP.run (mc_adjs _) 13 (And.intro (wl_ld rfl h.1) (And.intro (wl_ld rfl h.2.1) (And.intro rfl h.2.2))))
set_option maxRecDepth 20000 in
theorem bk_42_677 {x4 : Int32} {x5 : Int32} {x6 : Value} {y0 : Int32} {u : mc_U}
    (h : u.1 + 0 ≤ 601024 ∧ u.2 + 0 ≤ 7293000 ∧ ((I 84 0) = x5 →
        ((¬ x5 = 0 →
          (mc_WP (42, 43, [.ref 1, .ref 10, .ref 84, .ref 105, .int (x4 + (6 : Int32)), .int x5, .int y0], [], (I, J, rf_w r, sh_w N, n), u) Q)) ∧
          (¬ (¬ x5 = 0) →
          (((lg_cmp (J 105 0) y0.toInt64) = 0 →
            (mc_WP (42, 43, [.ref 1, .ref 10, .ref 84, .ref 105, .int (x4 + (6 : Int32)), .int x5, .int y0], [], (I, J, rf_w r, sh_w N, n), u) Q)) ∧
            (¬ ((lg_cmp (J 105 0) y0.toInt64) = 0) → (Q (.inl (some (.int (0 : Int32)))) (I, J, rf_w r, sh_w N, n))))))) ∧
        (¬ ((I 84 0) = x5) → (Q (.inl (some (.int (0 : Int32)))) (I, J, rf_w r, sh_w N, n)))) :
    mc_WP (42, 677, [.ref 1, .ref 10, .ref 84, .ref 105, .int x4, .int x5, x6], [.int y0], (I, J, rf_w r, sh_w N, n), u) Q := by
  exact (mc_WP.run (mc_adjs _) 3 (And.intro rfl (And.intro h.1 (And.intro h.2.1 (mc_inl (mc_WP.run (mc_adjs _) 3 (And.intro rfl (mc_WP.run (mc_adjs _) 2 (And.intro (fun c12 => (mc_WP.run (mc_adjs _) 2 (And.intro (fun c13 => (mc_WP.run (mc_adjs _) 1 (mc_WP.run (mc_adjs _) 2 ((h.2.2.1 c12).1 c13)))) (fun c13 => (mc_WP.run (mc_adjs _) 7 (And.intro (wl_ldl rfl (show vp_in (0 : Int32) 1 by unfold vp_in; decide)) (And.intro (fun c14 => (mc_WP.run (mc_adjs _) 1 (mc_WP.run (mc_adjs _) 2 (((h.2.2.1 c12).2 c13).1 c14)))) (fun c14 => (mc_WP.run (mc_adjs _) 2 (And.intro (by decide) (((h.2.2.1 c12).2 c13).2 c14))))))))))) (fun c12 => (mc_WP.run (mc_adjs _) 2 (And.intro (by decide) (h.2.2.2 c12)))))))))))))
set_option maxRecDepth 20000 in
theorem bk_42_710 {x4 : Int32} {x5 : Value} {x6 : Value} {u : mc_U}
    (h : vp_in (x4 + (1 : Int32)) N ∧ vp_in (x4 + (2 : Int32)) N ∧ vp_in (x4 + (3 : Int32)) N ∧ u.1 + 2 ≤ 601024 ∧ u.2 + 12 ≤ 7293000 ∧ ∃ R : mc_Q, mc_WP (mc_en 36 [.ref 10, .int (I 1 (x4 + (1 : Int32)).toNatClampNeg), .int (I 1 (x4 + (2 : Int32)).toNatClampNeg), .int (I 1 (x4 + (3 : Int32)).toNatClampNeg), .ref 105] (I, J, rf_w r, sh_w N, n)) R ∧ (∀ v t, R (.inl v) t → mc_WP (42, 733, [.ref 1, .ref 10, .ref 84, .ref 105, .int x4, x5, x6], v.toList ++ [], t, (u.1 + 2, u.2 + 12)) Q) ∧ (∀ k t, R (.inr k) t → Q (.inr k) t)) :
    mc_WP (42, 710, [.ref 1, .ref 10, .ref 84, .ref 105, .int x4, x5, x6], [], (I, J, rf_w r, sh_w N, n), u) Q := by
  exact (mc_WP.run (mc_adjs _) 18 (And.intro (wl_ld rfl h.1) (And.intro (wl_ld rfl h.2.1) (And.intro (wl_ld rfl h.2.2.1) h.2.2.2))))
set_option maxRecDepth 20000 in
theorem bk_42_733 {x4 : Int32} {x5 : Value} {x6 : Value} {y0 : Int32} {u : mc_U}
    (h : vp_in (x4 + (1 : Int32)) N ∧ vp_in (x4 + (2 : Int32)) N ∧ vp_in (x4 + (3 : Int32)) N ∧ u.1 + 0 ≤ 601024 ∧ u.2 + 0 ≤ 7293000 ∧ ∃ R : mc_Q, mc_WP (mc_en 75 [.ref 84, .int (I 1 (x4 + (1 : Int32)).toNatClampNeg), .int (I 1 (x4 + (2 : Int32)).toNatClampNeg), .int (I 1 (x4 + (3 : Int32)).toNatClampNeg)] (I, J, rf_w r, sh_w N, n)) R ∧ (∀ v t, R (.inl v) t → mc_WP (42, 757, [.ref 1, .ref 10, .ref 84, .ref 105, .int x4, .int y0, x6], v.toList ++ [], t, u) Q) ∧ (∀ k t, R (.inr k) t → Q (.inr k) t)) :
    mc_WP (42, 733, [.ref 1, .ref 10, .ref 84, .ref 105, .int x4, x5, x6], [.int y0], (I, J, rf_w r, sh_w N, n), u) Q := by
  exact (mc_WP.run (mc_adjs _) 18 (And.intro (wl_ld rfl h.1) (And.intro (wl_ld rfl h.2.1) (And.intro (wl_ld rfl h.2.2.1) (And.intro rfl h.2.2.2)))))
set_option maxRecDepth 20000 in
theorem bk_42_757 {x4 : Int32} {x5 : Int32} {x6 : Value} {y0 : Int32} {u : mc_U}
    (h : u.1 + 0 ≤ 601024 ∧ u.2 + 0 ≤ 7293000 ∧ ((I 84 0) = x5 →
        ((¬ x5 = 0 →
          (mc_WP (42, 43, [.ref 1, .ref 10, .ref 84, .ref 105, .int (x4 + (6 : Int32)), .int x5, .int y0], [], (I, J, rf_w r, sh_w N, n), u) Q)) ∧
          (¬ (¬ x5 = 0) →
          (((lg_cmp (J 105 0) y0.toInt64) = 0 →
            (mc_WP (42, 43, [.ref 1, .ref 10, .ref 84, .ref 105, .int (x4 + (6 : Int32)), .int x5, .int y0], [], (I, J, rf_w r, sh_w N, n), u) Q)) ∧
            (¬ ((lg_cmp (J 105 0) y0.toInt64) = 0) → (Q (.inl (some (.int (0 : Int32)))) (I, J, rf_w r, sh_w N, n))))))) ∧
        (¬ ((I 84 0) = x5) → (Q (.inl (some (.int (0 : Int32)))) (I, J, rf_w r, sh_w N, n)))) :
    mc_WP (42, 757, [.ref 1, .ref 10, .ref 84, .ref 105, .int x4, .int x5, x6], [.int y0], (I, J, rf_w r, sh_w N, n), u) Q := by
  exact (mc_WP.run (mc_adjs _) 3 (And.intro rfl (And.intro h.1 (And.intro h.2.1 (mc_inl (mc_WP.run (mc_adjs _) 3 (And.intro rfl (mc_WP.run (mc_adjs _) 2 (And.intro (fun c12 => (mc_WP.run (mc_adjs _) 2 (And.intro (fun c13 => (mc_WP.run (mc_adjs _) 1 (mc_WP.run (mc_adjs _) 2 ((h.2.2.1 c12).1 c13)))) (fun c13 => (mc_WP.run (mc_adjs _) 7 (And.intro (wl_ldl rfl (show vp_in (0 : Int32) 1 by unfold vp_in; decide)) (And.intro (fun c14 => (mc_WP.run (mc_adjs _) 1 (mc_WP.run (mc_adjs _) 2 (((h.2.2.1 c12).2 c13).1 c14)))) (fun c14 => (mc_WP.run (mc_adjs _) 2 (And.intro (by decide) (((h.2.2.1 c12).2 c13).2 c14))))))))))) (fun c12 => (mc_WP.run (mc_adjs _) 2 (And.intro (by decide) (h.2.2.2 c12)))))))))))))
set_option maxRecDepth 20000 in
theorem bk_42_790 {x4 : Int32} {x5 : Value} {x6 : Value} {u : mc_U}
    (h : u.1 + 0 ≤ 601024 ∧ u.2 + 0 ≤ 7293000 ∧ ∃ R : mc_Q, mc_WP (mc_en 45 [.ref 10] (I, J, rf_w r, sh_w N, n)) R ∧ (∀ v t, R (.inl v) t → mc_WP (42, 794, [.ref 1, .ref 10, .ref 84, .ref 105, .int x4, x5, x6], v.toList ++ [], t, u) Q) ∧ (∀ k t, R (.inr k) t → Q (.inr k) t)) :
    mc_WP (42, 790, [.ref 1, .ref 10, .ref 84, .ref 105, .int x4, x5, x6], [], (I, J, rf_w r, sh_w N, n), u) Q := by
  exact (mc_WP.run (mc_adjs _) 2 (And.intro rfl h))
set_option maxRecDepth 20000 in
theorem bk_42_794 {x4 : Int32} {x5 : Value} {x6 : Value} {y0 : Int32} {u : mc_U}
    (h : u.1 + 0 ≤ 601024 ∧ u.2 + 0 ≤ 7293000 ∧ ∃ R : mc_Q, mc_WP (mc_en 90 [.ref 84] (I, J, rf_w r, sh_w N, n)) R ∧ (∀ v t, R (.inl v) t → mc_WP (42, 798, [.ref 1, .ref 10, .ref 84, .ref 105, .int x4, x5, x6], v.toList ++ [.int y0], t, u) Q) ∧ (∀ k t, R (.inr k) t → Q (.inr k) t)) :
    mc_WP (42, 794, [.ref 1, .ref 10, .ref 84, .ref 105, .int x4, x5, x6], [.int y0], (I, J, rf_w r, sh_w N, n), u) Q := by
  exact (mc_WP.run (mc_adjs _) 2 (And.intro rfl h))
set_option maxRecDepth 20000 in
theorem bk_42_798 {x4 : Int32} {x5 : Value} {x6 : Value} {y0 : Int32} {y1 : Int32} {u : mc_U}
    (h : (y0 = y1 →
        (mc_WP (42, 43, [.ref 1, .ref 10, .ref 84, .ref 105, .int (x4 + (6 : Int32)), x5, x6], [], (I, J, rf_w r, sh_w N, n), u) Q)) ∧
        (¬ (y0 = y1) → (Q (.inl (some (.int (0 : Int32)))) (I, J, rf_w r, sh_w N, n)))) :
    mc_WP (42, 798, [.ref 1, .ref 10, .ref 84, .ref 105, .int x4, x5, x6], [.int y1, .int y0], (I, J, rf_w r, sh_w N, n), u) Q := by
  exact (mc_WP.run (mc_adjs _) 1 (And.intro (fun c4 => (mc_WP.run (mc_adjs _) 2 (h.1 c4))) (fun c4 => (mc_WP.run (mc_adjs _) 2 (And.intro (by decide) (h.2 c4))))))
set_option maxRecDepth 20000 in
theorem bk_42_803 {x4 : Int32} {x5 : Value} {x6 : Value} {u : mc_U}
    (h : vp_in (x4 + (1 : Int32)) N ∧ vp_in (x4 + (2 : Int32)) N ∧ vp_in (x4 + (3 : Int32)) N ∧ u.1 + 0 ≤ 601024 ∧ u.2 + 0 ≤ 7293000 ∧ ∃ R : mc_Q, mc_WP (mc_en 46 [.ref 10, .long (((I 1 (x4 + (1 : Int32)).toNatClampNeg).toInt64 <<< ((32 : Int32).toInt64 &&& 63)) ||| ((I 1 (x4 + (2 : Int32)).toNatClampNeg).toInt64 &&& (Int64.ofNat 4294967295))), .int (I 1 (x4 + (3 : Int32)).toNatClampNeg)] (I, J, rf_w r, sh_w N, n)) R ∧ (∀ v t, R (.inl v) t → mc_WP (42, 835, [.ref 1, .ref 10, .ref 84, .ref 105, .int x4, x5, x6], v.toList ++ [], t, u) Q) ∧ (∀ k t, R (.inr k) t → Q (.inr k) t)) :
    mc_WP (42, 803, [.ref 1, .ref 10, .ref 84, .ref 105, .int x4, x5, x6], [], (I, J, rf_w r, sh_w N, n), u) Q := by
  exact (mc_WP.run (mc_adjs _) 24 (And.intro (wl_ld rfl h.1) (And.intro (wl_ld rfl h.2.1) (And.intro (wl_ld rfl h.2.2.1) (And.intro rfl h.2.2.2)))))
set_option maxRecDepth 20000 in
theorem bk_42_835 {x4 : Int32} {x5 : Value} {x6 : Value} {y0 : Int32} {u : mc_U}
    (h : vp_in (x4 + (1 : Int32)) N ∧ vp_in (x4 + (2 : Int32)) N ∧ vp_in (x4 + (3 : Int32)) N ∧ u.1 + 0 ≤ 601024 ∧ u.2 + 0 ≤ 7293000 ∧ ∃ R : mc_Q, mc_WP (mc_en 91 [.ref 84, .long (((I 1 (x4 + (1 : Int32)).toNatClampNeg).toInt64 <<< ((32 : Int32).toInt64 &&& 63)) ||| ((I 1 (x4 + (2 : Int32)).toNatClampNeg).toInt64 &&& (Int64.ofNat 4294967295))), .int (I 1 (x4 + (3 : Int32)).toNatClampNeg)] (I, J, rf_w r, sh_w N, n)) R ∧ (∀ v t, R (.inl v) t → mc_WP (42, 867, [.ref 1, .ref 10, .ref 84, .ref 105, .int x4, x5, x6], v.toList ++ [.int y0], t, u) Q) ∧ (∀ k t, R (.inr k) t → Q (.inr k) t)) :
    mc_WP (42, 835, [.ref 1, .ref 10, .ref 84, .ref 105, .int x4, x5, x6], [.int y0], (I, J, rf_w r, sh_w N, n), u) Q := by
  exact (mc_WP.run (mc_adjs _) 24 (And.intro (wl_ld rfl h.1) (And.intro (wl_ld rfl h.2.1) (And.intro (wl_ld rfl h.2.2.1) (And.intro rfl h.2.2.2)))))
set_option maxRecDepth 20000 in
theorem bk_42_867 {x4 : Int32} {x5 : Value} {x6 : Value} {y0 : Int32} {y1 : Int32} {u : mc_U}
    (h : (y0 = y1 →
        (mc_WP (42, 43, [.ref 1, .ref 10, .ref 84, .ref 105, .int (x4 + (6 : Int32)), x5, x6], [], (I, J, rf_w r, sh_w N, n), u) Q)) ∧
        (¬ (y0 = y1) → (Q (.inl (some (.int (0 : Int32)))) (I, J, rf_w r, sh_w N, n)))) :
    mc_WP (42, 867, [.ref 1, .ref 10, .ref 84, .ref 105, .int x4, x5, x6], [.int y1, .int y0], (I, J, rf_w r, sh_w N, n), u) Q := by
  exact (mc_WP.run (mc_adjs _) 1 (And.intro (fun c4 => (mc_WP.run (mc_adjs _) 2 (h.1 c4))) (fun c4 => (mc_WP.run (mc_adjs _) 2 (And.intro (by decide) (h.2 c4))))))
set_option maxRecDepth 20000 in
theorem bk_42_872 {x4 : Int32} {x5 : Value} {x6 : Value} {u : mc_U}
    (h : u.1 + 0 ≤ 601024 ∧ u.2 + 0 ≤ 7293000 ∧ u.1 + 0 ≤ 601024 ∧ u.2 + 0 ≤ 7293000 ∧ ((I 54 1) = (I 84 10) →
        (mc_WP (42, 43, [.ref 1, .ref 10, .ref 84, .ref 105, .int (x4 + (6 : Int32)), x5, x6], [], ((mc_up (mc_up (mc_up I 54 1 (0 : Int32)) 84 0 (0 : Int32)) 84 10 (0 : Int32)), J, rf_w r, sh_w N, n), u) Q)) ∧
        (¬ ((I 54 1) = (I 84 10)) →
        (Q (.inl (some (.int (0 : Int32)))) ((mc_up (mc_up (mc_up I 54 1 (0 : Int32)) 84 0 (0 : Int32)) 84 10 (0 : Int32)), J, rf_w r, sh_w N, n)))) :
    mc_WP (42, 872, [.ref 1, .ref 10, .ref 84, .ref 105, .int x4, x5, x6], [], (I, J, rf_w r, sh_w N, n), u) Q := by
  exact (mc_WP.run (mc_adjs _) 2 (And.intro rfl (And.intro h.1 (And.intro h.2.1 (mc_inl (mc_WP.run (mc_adjs _) 10 (And.intro ⟨rfl, (show ¬ (54 : Nat) = 0 by decide)⟩ (And.intro rfl (And.intro ⟨rfl, (show ¬ (54 : Nat) = 0 by decide)⟩ (And.intro rfl (mc_WP.run (mc_adjs _) 2 (And.intro rfl (And.intro h.2.2.1 (And.intro h.2.2.2.1 (mc_inl (mc_WP.run (mc_adjs _) 11 (And.intro rfl (And.intro rfl (And.intro rfl (mc_WP.run (mc_adjs _) 1 (And.intro (fun c8 => (mc_WP.run (mc_adjs _) 2 (h.2.2.2.2.1 c8))) (fun c8 => (mc_WP.run (mc_adjs _) 2 (And.intro (by decide) (h.2.2.2.2.2 c8)))))))))))))))))))))))))
set_option maxRecDepth 20000 in
theorem bk_42_885 {x4 : Int32} {x5 : Value} {x6 : Value} {u : mc_U}
    (h : vp_in (x4 + (1 : Int32)) N ∧ vp_in (x4 + (2 : Int32)) N ∧ u.1 + 0 ≤ 601024 ∧ u.2 + 0 ≤ 7293000 ∧ ∃ R : mc_Q, mc_WP (mc_en 48 [.ref 10, .int (I 1 (x4 + (1 : Int32)).toNatClampNeg), .int (I 1 (x4 + (2 : Int32)).toNatClampNeg)] (I, J, rf_w r, sh_w N, n)) R ∧ (∀ v t, R (.inl v) t → mc_WP (42, 901, [.ref 1, .ref 10, .ref 84, .ref 105, .int x4, x5, x6], v.toList ++ [], t, u) Q) ∧ (∀ k t, R (.inr k) t → Q (.inr k) t)) :
    mc_WP (42, 885, [.ref 1, .ref 10, .ref 84, .ref 105, .int x4, x5, x6], [], (I, J, rf_w r, sh_w N, n), u) Q := by
  exact (mc_WP.run (mc_adjs _) 12 (And.intro (wl_ld rfl h.1) (And.intro (wl_ld rfl h.2.1) (And.intro rfl h.2.2))))
set_option maxRecDepth 20000 in
theorem bk_42_901 {x4 : Int32} {x5 : Value} {x6 : Value} {y0 : Int32} {u : mc_U}
    (h : vp_in (x4 + (1 : Int32)) N ∧ vp_in (x4 + (2 : Int32)) N ∧ u.1 + 0 ≤ 601024 ∧ u.2 + 0 ≤ 7293000 ∧ ∃ R : mc_Q, mc_WP (mc_en 93 [.ref 84, .int (I 1 (x4 + (1 : Int32)).toNatClampNeg), .int (I 1 (x4 + (2 : Int32)).toNatClampNeg)] (I, J, rf_w r, sh_w N, n)) R ∧ (∀ v t, R (.inl v) t → mc_WP (42, 917, [.ref 1, .ref 10, .ref 84, .ref 105, .int x4, x5, x6], v.toList ++ [.int y0], t, u) Q) ∧ (∀ k t, R (.inr k) t → Q (.inr k) t)) :
    mc_WP (42, 901, [.ref 1, .ref 10, .ref 84, .ref 105, .int x4, x5, x6], [.int y0], (I, J, rf_w r, sh_w N, n), u) Q := by
  exact (mc_WP.run (mc_adjs _) 12 (And.intro (wl_ld rfl h.1) (And.intro (wl_ld rfl h.2.1) (And.intro rfl h.2.2))))
set_option maxRecDepth 20000 in
theorem bk_42_917 {x4 : Int32} {x5 : Value} {x6 : Value} {y0 : Int32} {y1 : Int32} {u : mc_U}
    (h : (y0 = y1 →
        (mc_WP (42, 43, [.ref 1, .ref 10, .ref 84, .ref 105, .int (x4 + (6 : Int32)), x5, x6], [], (I, J, rf_w r, sh_w N, n), u) Q)) ∧
        (¬ (y0 = y1) → (Q (.inl (some (.int (0 : Int32)))) (I, J, rf_w r, sh_w N, n)))) :
    mc_WP (42, 917, [.ref 1, .ref 10, .ref 84, .ref 105, .int x4, x5, x6], [.int y1, .int y0], (I, J, rf_w r, sh_w N, n), u) Q := by
  exact (mc_WP.run (mc_adjs _) 1 (And.intro (fun c4 => (mc_WP.run (mc_adjs _) 2 (h.1 c4))) (fun c4 => (mc_WP.run (mc_adjs _) 2 (And.intro (by decide) (h.2 c4))))))
set_option maxRecDepth 20000 in
theorem bk_42_922 {x4 : Int32} {x5 : Value} {x6 : Value} {u : mc_U}
    (h : vp_in (x4 + (1 : Int32)) N ∧ u.1 + 0 ≤ 601024 ∧ u.2 + 0 ≤ 7293000 ∧ ∃ R : mc_Q, mc_WP (mc_en 49 [.ref 10, .int (I 1 (x4 + (1 : Int32)).toNatClampNeg)] (I, J, rf_w r, sh_w N, n)) R ∧ (∀ v t, R (.inl v) t → mc_WP (42, 932, [.ref 1, .ref 10, .ref 84, .ref 105, .int x4, x5, x6], v.toList ++ [], t, u) Q) ∧ (∀ k t, R (.inr k) t → Q (.inr k) t)) :
    mc_WP (42, 922, [.ref 1, .ref 10, .ref 84, .ref 105, .int x4, x5, x6], [], (I, J, rf_w r, sh_w N, n), u) Q := by
  exact (mc_WP.run (mc_adjs _) 7 (And.intro (wl_ld rfl h.1) (And.intro rfl h.2)))
set_option maxRecDepth 20000 in
theorem bk_42_932 {x4 : Int32} {x5 : Value} {x6 : Value} {y0 : Int32} {u : mc_U}
    (h : vp_in (x4 + (1 : Int32)) N ∧ u.1 + 0 ≤ 601024 ∧ u.2 + 0 ≤ 7293000 ∧ ∃ R : mc_Q, mc_WP (mc_en 94 [.ref 84, .int (I 1 (x4 + (1 : Int32)).toNatClampNeg)] (I, J, rf_w r, sh_w N, n)) R ∧ (∀ v t, R (.inl v) t → mc_WP (42, 942, [.ref 1, .ref 10, .ref 84, .ref 105, .int x4, x5, x6], v.toList ++ [.int y0], t, u) Q) ∧ (∀ k t, R (.inr k) t → Q (.inr k) t)) :
    mc_WP (42, 932, [.ref 1, .ref 10, .ref 84, .ref 105, .int x4, x5, x6], [.int y0], (I, J, rf_w r, sh_w N, n), u) Q := by
  exact (mc_WP.run (mc_adjs _) 7 (And.intro (wl_ld rfl h.1) (And.intro rfl h.2)))
set_option maxRecDepth 20000 in
theorem bk_42_942 {x4 : Int32} {x5 : Value} {x6 : Value} {y0 : Int32} {y1 : Int32} {u : mc_U}
    (h : (y0 = y1 →
        (mc_WP (42, 43, [.ref 1, .ref 10, .ref 84, .ref 105, .int (x4 + (6 : Int32)), x5, x6], [], (I, J, rf_w r, sh_w N, n), u) Q)) ∧
        (¬ (y0 = y1) → (Q (.inl (some (.int (0 : Int32)))) (I, J, rf_w r, sh_w N, n)))) :
    mc_WP (42, 942, [.ref 1, .ref 10, .ref 84, .ref 105, .int x4, x5, x6], [.int y1, .int y0], (I, J, rf_w r, sh_w N, n), u) Q := by
  exact (mc_WP.run (mc_adjs _) 1 (And.intro (fun c4 => (mc_WP.run (mc_adjs _) 2 (h.1 c4))) (fun c4 => (mc_WP.run (mc_adjs _) 2 (And.intro (by decide) (h.2 c4))))))
set_option maxRecDepth 20000 in
theorem bk_42_947 {x4 : Int32} {x5 : Value} {x6 : Value} {u : mc_U}
    (h : u.1 + 1 ≤ 601024 ∧ u.2 + 6 ≤ 7293000 ∧ ∃ R : mc_Q, mc_WP (mc_en 37 [.ref 10, .ref 105] (I, J, rf_w r, sh_w N, n)) R ∧ (∀ v t, R (.inl v) t → mc_WP (42, 952, [.ref 1, .ref 10, .ref 84, .ref 105, .int x4, x5, x6], v.toList ++ [], t, (u.1 + 1, u.2 + 6)) Q) ∧ (∀ k t, R (.inr k) t → Q (.inr k) t)) :
    mc_WP (42, 947, [.ref 1, .ref 10, .ref 84, .ref 105, .int x4, x5, x6], [], (I, J, rf_w r, sh_w N, n), u) Q := by
  exact (mc_WP.run (mc_adjs _) 3 h)
set_option maxRecDepth 20000 in
theorem bk_42_952 {x4 : Int32} {x5 : Value} {x6 : Value} {y0 : Int32} {u : mc_U}
    (h : u.1 + 0 ≤ 601024 ∧ u.2 + 0 ≤ 7293000 ∧ ∃ R : mc_Q, mc_WP (mc_en 104 [.ref 84] (I, J, rf_w r, sh_w N, n)) R ∧ (∀ v t, R (.inl v) t → mc_WP (42, 958, [.ref 1, .ref 10, .ref 84, .ref 105, .int x4, .int y0, x6], v.toList ++ [], t, u) Q) ∧ (∀ k t, R (.inr k) t → Q (.inr k) t)) :
    mc_WP (42, 952, [.ref 1, .ref 10, .ref 84, .ref 105, .int x4, x5, x6], [.int y0], (I, J, rf_w r, sh_w N, n), u) Q := by
  exact (mc_WP.run (mc_adjs _) 3 (And.intro rfl h))
set_option maxRecDepth 20000 in
theorem bk_42_958 {x4 : Int32} {x5 : Int32} {x6 : Value} {y0 : Int32} {u : mc_U}
    (h : u.1 + 0 ≤ 601024 ∧ u.2 + 0 ≤ 7293000 ∧ ((I 84 0) = x5 →
        ((¬ x5 = 0 →
          (mc_WP (42, 43, [.ref 1, .ref 10, .ref 84, .ref 105, .int (x4 + (6 : Int32)), .int x5, .int y0], [], (I, J, rf_w r, sh_w N, n), u) Q)) ∧
          (¬ (¬ x5 = 0) →
          (((lg_cmp (J 105 0) y0.toInt64) = 0 →
            (mc_WP (42, 43, [.ref 1, .ref 10, .ref 84, .ref 105, .int (x4 + (6 : Int32)), .int x5, .int y0], [], (I, J, rf_w r, sh_w N, n), u) Q)) ∧
            (¬ ((lg_cmp (J 105 0) y0.toInt64) = 0) → (Q (.inl (some (.int (0 : Int32)))) (I, J, rf_w r, sh_w N, n))))))) ∧
        (¬ ((I 84 0) = x5) → (Q (.inl (some (.int (0 : Int32)))) (I, J, rf_w r, sh_w N, n)))) :
    mc_WP (42, 958, [.ref 1, .ref 10, .ref 84, .ref 105, .int x4, .int x5, x6], [.int y0], (I, J, rf_w r, sh_w N, n), u) Q := by
  exact (mc_WP.run (mc_adjs _) 3 (And.intro rfl (And.intro h.1 (And.intro h.2.1 (mc_inl (mc_WP.run (mc_adjs _) 3 (And.intro rfl (mc_WP.run (mc_adjs _) 2 (And.intro (fun c12 => (mc_WP.run (mc_adjs _) 2 (And.intro (fun c13 => (mc_WP.run (mc_adjs _) 1 (mc_WP.run (mc_adjs _) 2 ((h.2.2.1 c12).1 c13)))) (fun c13 => (mc_WP.run (mc_adjs _) 7 (And.intro (wl_ldl rfl (show vp_in (0 : Int32) 1 by unfold vp_in; decide)) (And.intro (fun c14 => (mc_WP.run (mc_adjs _) 1 (mc_WP.run (mc_adjs _) 2 (((h.2.2.1 c12).2 c13).1 c14)))) (fun c14 => (mc_WP.run (mc_adjs _) 2 (And.intro (by decide) (((h.2.2.1 c12).2 c13).2 c14))))))))))) (fun c12 => (mc_WP.run (mc_adjs _) 2 (And.intro (by decide) (h.2.2.2 c12)))))))))))))
set_option maxRecDepth 20000 in
theorem bk_42_991 {x4 : Int32} {x5 : Value} {x6 : Value} {u : mc_U}
    (h : vp_in (x4 + (1 : Int32)) N ∧ u.1 + 1 ≤ 601024 ∧ u.2 + 6 ≤ 7293000 ∧ ∃ R : mc_Q, mc_WP (mc_en 38 [.ref 10, .int (I 1 (x4 + (1 : Int32)).toNatClampNeg), .ref 105] (I, J, rf_w r, sh_w N, n)) R ∧ (∀ v t, R (.inl v) t → mc_WP (42, 1002, [.ref 1, .ref 10, .ref 84, .ref 105, .int x4, x5, x6], v.toList ++ [], t, (u.1 + 1, u.2 + 6)) Q) ∧ (∀ k t, R (.inr k) t → Q (.inr k) t)) :
    mc_WP (42, 991, [.ref 1, .ref 10, .ref 84, .ref 105, .int x4, x5, x6], [], (I, J, rf_w r, sh_w N, n), u) Q := by
  exact (mc_WP.run (mc_adjs _) 8 (And.intro (wl_ld rfl h.1) h.2))
set_option maxRecDepth 20000 in
theorem bk_42_1002 {x4 : Int32} {x5 : Value} {x6 : Value} {y0 : Int32} {u : mc_U}
    (h : vp_in (x4 + (1 : Int32)) N ∧ u.1 + 0 ≤ 601024 ∧ u.2 + 0 ≤ 7293000 ∧ ∃ R : mc_Q, mc_WP (mc_en 108 [.ref 84, .int (I 1 (x4 + (1 : Int32)).toNatClampNeg)] (I, J, rf_w r, sh_w N, n)) R ∧ (∀ v t, R (.inl v) t → mc_WP (42, 1014, [.ref 1, .ref 10, .ref 84, .ref 105, .int x4, .int y0, x6], v.toList ++ [], t, u) Q) ∧ (∀ k t, R (.inr k) t → Q (.inr k) t)) :
    mc_WP (42, 1002, [.ref 1, .ref 10, .ref 84, .ref 105, .int x4, x5, x6], [.int y0], (I, J, rf_w r, sh_w N, n), u) Q := by
  exact (mc_WP.run (mc_adjs _) 8 (And.intro (wl_ld rfl h.1) (And.intro rfl h.2)))
set_option maxRecDepth 20000 in
theorem bk_42_1014 {x4 : Int32} {x5 : Int32} {x6 : Value} {y0 : Int32} {u : mc_U}
    (h : u.1 + 0 ≤ 601024 ∧ u.2 + 0 ≤ 7293000 ∧ ((I 84 0) = x5 →
        ((¬ x5 = 0 →
          (mc_WP (42, 43, [.ref 1, .ref 10, .ref 84, .ref 105, .int (x4 + (6 : Int32)), .int x5, .int y0], [], (I, J, rf_w r, sh_w N, n), u) Q)) ∧
          (¬ (¬ x5 = 0) →
          (((lg_cmp (J 105 0) y0.toInt64) = 0 →
            (mc_WP (42, 43, [.ref 1, .ref 10, .ref 84, .ref 105, .int (x4 + (6 : Int32)), .int x5, .int y0], [], (I, J, rf_w r, sh_w N, n), u) Q)) ∧
            (¬ ((lg_cmp (J 105 0) y0.toInt64) = 0) → (Q (.inl (some (.int (0 : Int32)))) (I, J, rf_w r, sh_w N, n))))))) ∧
        (¬ ((I 84 0) = x5) → (Q (.inl (some (.int (0 : Int32)))) (I, J, rf_w r, sh_w N, n)))) :
    mc_WP (42, 1014, [.ref 1, .ref 10, .ref 84, .ref 105, .int x4, .int x5, x6], [.int y0], (I, J, rf_w r, sh_w N, n), u) Q := by
  exact (mc_WP.run (mc_adjs _) 3 (And.intro rfl (And.intro h.1 (And.intro h.2.1 (mc_inl (mc_WP.run (mc_adjs _) 3 (And.intro rfl (mc_WP.run (mc_adjs _) 2 (And.intro (fun c12 => (mc_WP.run (mc_adjs _) 2 (And.intro (fun c13 => (mc_WP.run (mc_adjs _) 1 (mc_WP.run (mc_adjs _) 2 ((h.2.2.1 c12).1 c13)))) (fun c13 => (mc_WP.run (mc_adjs _) 7 (And.intro (wl_ldl rfl (show vp_in (0 : Int32) 1 by unfold vp_in; decide)) (And.intro (fun c14 => (mc_WP.run (mc_adjs _) 1 (mc_WP.run (mc_adjs _) 2 (((h.2.2.1 c12).2 c13).1 c14)))) (fun c14 => (mc_WP.run (mc_adjs _) 2 (And.intro (by decide) (((h.2.2.1 c12).2 c13).2 c14))))))))))) (fun c12 => (mc_WP.run (mc_adjs _) 2 (And.intro (by decide) (h.2.2.2 c12)))))))))))))
set_option maxRecDepth 20000 in
theorem bk_42_1047 {x4 : Int32} {x5 : Value} {x6 : Value} {u : mc_U}
    (h : vp_in (x4 + (1 : Int32)) N ∧ vp_in (x4 + (2 : Int32)) N ∧ u.1 + 1 ≤ 601024 ∧ u.2 + 6 ≤ 7293000 ∧ ∃ R : mc_Q, mc_WP (mc_en 39 [.ref 10, .int (I 1 (x4 + (1 : Int32)).toNatClampNeg), .int (I 1 (x4 + (2 : Int32)).toNatClampNeg), .ref 105] (I, J, rf_w r, sh_w N, n)) R ∧ (∀ v t, R (.inl v) t → mc_WP (42, 1064, [.ref 1, .ref 10, .ref 84, .ref 105, .int x4, x5, x6], v.toList ++ [], t, (u.1 + 1, u.2 + 6)) Q) ∧ (∀ k t, R (.inr k) t → Q (.inr k) t)) :
    mc_WP (42, 1047, [.ref 1, .ref 10, .ref 84, .ref 105, .int x4, x5, x6], [], (I, J, rf_w r, sh_w N, n), u) Q := by
  exact (mc_WP.run (mc_adjs _) 13 (And.intro (wl_ld rfl h.1) (And.intro (wl_ld rfl h.2.1) h.2.2)))
set_option maxRecDepth 20000 in
theorem bk_42_1064 {x4 : Int32} {x5 : Value} {x6 : Value} {y0 : Int32} {u : mc_U}
    (h : vp_in (x4 + (1 : Int32)) N ∧ vp_in (x4 + (2 : Int32)) N ∧ u.1 + 0 ≤ 601024 ∧ u.2 + 0 ≤ 7293000 ∧ ∃ R : mc_Q, mc_WP (mc_en 110 [.ref 84, .int (I 1 (x4 + (1 : Int32)).toNatClampNeg), .int (I 1 (x4 + (2 : Int32)).toNatClampNeg)] (I, J, rf_w r, sh_w N, n)) R ∧ (∀ v t, R (.inl v) t → mc_WP (42, 1082, [.ref 1, .ref 10, .ref 84, .ref 105, .int x4, .int y0, x6], v.toList ++ [], t, u) Q) ∧ (∀ k t, R (.inr k) t → Q (.inr k) t)) :
    mc_WP (42, 1064, [.ref 1, .ref 10, .ref 84, .ref 105, .int x4, x5, x6], [.int y0], (I, J, rf_w r, sh_w N, n), u) Q := by
  exact (mc_WP.run (mc_adjs _) 13 (And.intro (wl_ld rfl h.1) (And.intro (wl_ld rfl h.2.1) (And.intro rfl h.2.2))))
set_option maxRecDepth 20000 in
theorem bk_42_1082 {x4 : Int32} {x5 : Int32} {x6 : Value} {y0 : Int32} {u : mc_U}
    (h : u.1 + 0 ≤ 601024 ∧ u.2 + 0 ≤ 7293000 ∧ ((I 84 0) = x5 →
        ((¬ x5 = 0 →
          (mc_WP (42, 43, [.ref 1, .ref 10, .ref 84, .ref 105, .int (x4 + (6 : Int32)), .int x5, .int y0], [], (I, J, rf_w r, sh_w N, n), u) Q)) ∧
          (¬ (¬ x5 = 0) →
          (((lg_cmp (J 105 0) y0.toInt64) = 0 →
            (mc_WP (42, 43, [.ref 1, .ref 10, .ref 84, .ref 105, .int (x4 + (6 : Int32)), .int x5, .int y0], [], (I, J, rf_w r, sh_w N, n), u) Q)) ∧
            (¬ ((lg_cmp (J 105 0) y0.toInt64) = 0) → (Q (.inl (some (.int (0 : Int32)))) (I, J, rf_w r, sh_w N, n))))))) ∧
        (¬ ((I 84 0) = x5) → (Q (.inl (some (.int (0 : Int32)))) (I, J, rf_w r, sh_w N, n)))) :
    mc_WP (42, 1082, [.ref 1, .ref 10, .ref 84, .ref 105, .int x4, .int x5, x6], [.int y0], (I, J, rf_w r, sh_w N, n), u) Q := by
  exact (mc_WP.run (mc_adjs _) 3 (And.intro rfl (And.intro h.1 (And.intro h.2.1 (mc_inl (mc_WP.run (mc_adjs _) 3 (And.intro rfl (mc_WP.run (mc_adjs _) 2 (And.intro (fun c12 => (mc_WP.run (mc_adjs _) 2 (And.intro (fun c13 => (mc_WP.run (mc_adjs _) 1 (mc_WP.run (mc_adjs _) 2 ((h.2.2.1 c12).1 c13)))) (fun c13 => (mc_WP.run (mc_adjs _) 7 (And.intro (wl_ldl rfl (show vp_in (0 : Int32) 1 by unfold vp_in; decide)) (And.intro (fun c14 => (mc_WP.run (mc_adjs _) 1 (mc_WP.run (mc_adjs _) 2 (((h.2.2.1 c12).2 c13).1 c14)))) (fun c14 => (mc_WP.run (mc_adjs _) 2 (And.intro (by decide) (((h.2.2.1 c12).2 c13).2 c14))))))))))) (fun c12 => (mc_WP.run (mc_adjs _) 2 (And.intro (by decide) (h.2.2.2 c12)))))))))))))
set_option maxRecDepth 20000 in
theorem bk_42_1115 {x4 : Int32} {x5 : Value} {x6 : Value} {u : mc_U}
    (h : vp_in (x4 + (1 : Int32)) N ∧ vp_in (x4 + (2 : Int32)) N ∧ vp_in (x4 + (3 : Int32)) N ∧ u.1 + 1 ≤ 601024 ∧ u.2 + 6 ≤ 7293000 ∧ ∃ R : mc_Q, mc_WP (mc_en 40 [.ref 10, .int (I 1 (x4 + (1 : Int32)).toNatClampNeg), .int (I 1 (x4 + (2 : Int32)).toNatClampNeg), .int (I 1 (x4 + (3 : Int32)).toNatClampNeg)] (I, J, rf_w r, sh_w N, n)) R ∧ (∀ v t, R (.inl v) t → mc_WP (42, 1137, [.ref 1, .ref 10, .ref 84, .ref 105, .int x4, x5, x6], v.toList ++ [], t, (u.1 + 1, u.2 + 6)) Q) ∧ (∀ k t, R (.inr k) t → Q (.inr k) t)) :
    mc_WP (42, 1115, [.ref 1, .ref 10, .ref 84, .ref 105, .int x4, x5, x6], [], (I, J, rf_w r, sh_w N, n), u) Q := by
  exact (mc_WP.run (mc_adjs _) 17 (And.intro (wl_ld rfl h.1) (And.intro (wl_ld rfl h.2.1) (And.intro (wl_ld rfl h.2.2.1) h.2.2.2))))
set_option maxRecDepth 20000 in
theorem bk_42_1137 {x4 : Int32} {x5 : Value} {x6 : Value} {y0 : Int32} {u : mc_U}
    (h : vp_in (x4 + (1 : Int32)) N ∧ vp_in (x4 + (2 : Int32)) N ∧ vp_in (x4 + (3 : Int32)) N ∧ u.1 + 0 ≤ 601024 ∧ u.2 + 0 ≤ 7293000 ∧ ∃ R : mc_Q, mc_WP (mc_en 111 [.ref 84, .int (I 1 (x4 + (1 : Int32)).toNatClampNeg), .int (I 1 (x4 + (2 : Int32)).toNatClampNeg), .int (I 1 (x4 + (3 : Int32)).toNatClampNeg)] (I, J, rf_w r, sh_w N, n)) R ∧ (∀ v t, R (.inl v) t → mc_WP (42, 1161, [.ref 1, .ref 10, .ref 84, .ref 105, .int x4, .int y0, x6], v.toList ++ [], t, u) Q) ∧ (∀ k t, R (.inr k) t → Q (.inr k) t)) :
    mc_WP (42, 1137, [.ref 1, .ref 10, .ref 84, .ref 105, .int x4, x5, x6], [.int y0], (I, J, rf_w r, sh_w N, n), u) Q := by
  exact (mc_WP.run (mc_adjs _) 18 (And.intro (wl_ld rfl h.1) (And.intro (wl_ld rfl h.2.1) (And.intro (wl_ld rfl h.2.2.1) (And.intro rfl h.2.2.2)))))
set_option maxRecDepth 20000 in
theorem bk_42_1161 {x4 : Int32} {x5 : Int32} {x6 : Value} {u : mc_U}
    (h : u.1 + 0 ≤ 601024 ∧ u.2 + 0 ≤ 7293000 ∧ ((I 84 0) = x5 →
        (mc_WP (42, 43, [.ref 1, .ref 10, .ref 84, .ref 105, .int (x4 + (6 : Int32)), .int x5, x6], [], (I, J, rf_w r, sh_w N, n), u) Q)) ∧
        (¬ ((I 84 0) = x5) → (Q (.inl (some (.int (0 : Int32)))) (I, J, rf_w r, sh_w N, n)))) :
    mc_WP (42, 1161, [.ref 1, .ref 10, .ref 84, .ref 105, .int x4, .int x5, x6], [], (I, J, rf_w r, sh_w N, n), u) Q := by
  exact (mc_WP.run (mc_adjs _) 2 (And.intro rfl (And.intro h.1 (And.intro h.2.1 (mc_inl (mc_WP.run (mc_adjs _) 3 (And.intro rfl (mc_WP.run (mc_adjs _) 2 (And.intro (fun c7 => (mc_WP.run (mc_adjs _) 1 (mc_WP.run (mc_adjs _) 2 (h.2.2.1 c7)))) (fun c7 => (mc_WP.run (mc_adjs _) 2 (And.intro (by decide) (h.2.2.2 c7)))))))))))))
set_option maxRecDepth 20000 in
theorem bk_42_1175 {x4 : Int32} {x5 : Value} {x6 : Value} {u : mc_U}
    (h : vp_in (x4 + (1 : Int32)) N ∧ vp_in (x4 + (2 : Int32)) N ∧ u.1 + 2 ≤ 601024 ∧ u.2 + 12 ≤ 7293000 ∧ ∃ R : mc_Q, mc_WP (mc_en 41 [.ref 10, .int (I 1 (x4 + (1 : Int32)).toNatClampNeg), .int (I 1 (x4 + (2 : Int32)).toNatClampNeg), .ref 105] (I, J, rf_w r, sh_w N, n)) R ∧ (∀ v t, R (.inl v) t → mc_WP (42, 1192, [.ref 1, .ref 10, .ref 84, .ref 105, .int x4, x5, x6], v.toList ++ [], t, (u.1 + 2, u.2 + 12)) Q) ∧ (∀ k t, R (.inr k) t → Q (.inr k) t)) :
    mc_WP (42, 1175, [.ref 1, .ref 10, .ref 84, .ref 105, .int x4, x5, x6], [], (I, J, rf_w r, sh_w N, n), u) Q := by
  exact (mc_WP.run (mc_adjs _) 13 (And.intro (wl_ld rfl h.1) (And.intro (wl_ld rfl h.2.1) h.2.2)))
set_option maxRecDepth 20000 in
theorem bk_42_1192 {x4 : Int32} {x5 : Value} {x6 : Value} {y0 : Int32} {u : mc_U}
    (h : vp_in (x4 + (1 : Int32)) N ∧ vp_in (x4 + (2 : Int32)) N ∧ u.1 + 0 ≤ 601024 ∧ u.2 + 0 ≤ 7293000 ∧ ∃ R : mc_Q, mc_WP (mc_en 124 [.ref 84, .int (I 1 (x4 + (1 : Int32)).toNatClampNeg), .int (I 1 (x4 + (2 : Int32)).toNatClampNeg)] (I, J, rf_w r, sh_w N, n)) R ∧ (∀ v t, R (.inl v) t → mc_WP (42, 1210, [.ref 1, .ref 10, .ref 84, .ref 105, .int x4, .int y0, x6], v.toList ++ [], t, u) Q) ∧ (∀ k t, R (.inr k) t → Q (.inr k) t)) :
    mc_WP (42, 1192, [.ref 1, .ref 10, .ref 84, .ref 105, .int x4, x5, x6], [.int y0], (I, J, rf_w r, sh_w N, n), u) Q := by
  exact (mc_WP.run (mc_adjs _) 13 (And.intro (wl_ld rfl h.1) (And.intro (wl_ld rfl h.2.1) (And.intro rfl h.2.2))))
set_option maxRecDepth 20000 in
theorem bk_42_1210 {x4 : Int32} {x5 : Int32} {x6 : Value} {y0 : Int32} {u : mc_U}
    (h : u.1 + 0 ≤ 601024 ∧ u.2 + 0 ≤ 7293000 ∧ ((I 84 0) = x5 →
        ((¬ x5 = 0 →
          (mc_WP (42, 43, [.ref 1, .ref 10, .ref 84, .ref 105, .int (x4 + (6 : Int32)), .int x5, .int y0], [], (I, J, rf_w r, sh_w N, n), u) Q)) ∧
          (¬ (¬ x5 = 0) →
          (((lg_cmp (J 105 0) y0.toInt64) = 0 →
            (mc_WP (42, 43, [.ref 1, .ref 10, .ref 84, .ref 105, .int (x4 + (6 : Int32)), .int x5, .int y0], [], (I, J, rf_w r, sh_w N, n), u) Q)) ∧
            (¬ ((lg_cmp (J 105 0) y0.toInt64) = 0) → (Q (.inl (some (.int (0 : Int32)))) (I, J, rf_w r, sh_w N, n))))))) ∧
        (¬ ((I 84 0) = x5) → (Q (.inl (some (.int (0 : Int32)))) (I, J, rf_w r, sh_w N, n)))) :
    mc_WP (42, 1210, [.ref 1, .ref 10, .ref 84, .ref 105, .int x4, .int x5, x6], [.int y0], (I, J, rf_w r, sh_w N, n), u) Q := by
  exact (mc_WP.run (mc_adjs _) 3 (And.intro rfl (And.intro h.1 (And.intro h.2.1 (mc_inl (mc_WP.run (mc_adjs _) 3 (And.intro rfl (mc_WP.run (mc_adjs _) 2 (And.intro (fun c12 => (mc_WP.run (mc_adjs _) 2 (And.intro (fun c13 => (mc_WP.run (mc_adjs _) 1 (mc_WP.run (mc_adjs _) 2 ((h.2.2.1 c12).1 c13)))) (fun c13 => (mc_WP.run (mc_adjs _) 7 (And.intro (wl_ldl rfl (show vp_in (0 : Int32) 1 by unfold vp_in; decide)) (And.intro (fun c14 => (mc_WP.run (mc_adjs _) 1 (mc_WP.run (mc_adjs _) 2 (((h.2.2.1 c12).2 c13).1 c14)))) (fun c14 => (mc_WP.run (mc_adjs _) 2 (And.intro (by decide) (((h.2.2.1 c12).2 c13).2 c14))))))))))) (fun c12 => (mc_WP.run (mc_adjs _) 2 (And.intro (by decide) (h.2.2.2 c12)))))))))))))
end
