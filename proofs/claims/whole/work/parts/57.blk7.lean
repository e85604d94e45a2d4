/-! what the code does between its cut points (printed by blocks.py) -/
section
variable {I : Nat → Nat → Int32} {J : Nat → Nat → Int64} {r N n : Nat} {Q : mc_Q}
-- 147 packHead(LPaletteReel$Frame;)V inl<=1
set_option maxRecDepth 20000 in
theorem bk_147_0 {a1 : Nat} (ha1 : is_F a1)
    (h : ((I a1 9) = 0 →
        (((I (a1 + 2) 1) ≤ 0 →
          (∃ R : mc_Q, mc_WP (mc_en 126 [.ref 54, .int (44 : Int32)] (I, J, rf_w r, sh_w N, n)) R ∧ (∀ v t, R (.inl v) t → mc_WP (147, 51, [.ref 56, .ref a1, .int (0 : Int32)], v.toList ++ [], t, (0, 0)) Q) ∧ (∀ k t, R (.inr k) t → Q (.inr k) t))) ∧
          (¬ ((I (a1 + 2) 1) ≤ 0) →
          (∃ R : mc_Q, mc_WP (mc_en 55 [.int (I (a1 + 2) 1)] (I, J, rf_w r, sh_w N, n)) R ∧ (∀ v t, R (.inl v) t → mc_WP (147, 35, [.ref 56, .ref a1, .int (0 : Int32)], v.toList ++ [.int (2 : Int32), .int (0 : Int32)], t, (0, 0)) Q) ∧ (∀ k t, R (.inr k) t → Q (.inr k) t))))) ∧
        (¬ ((I a1 9) = 0) →
        (((I (a1 + 2) 1) ≤ 0 →
          (∃ R : mc_Q, mc_WP (mc_en 126 [.ref 54, .int (44 : Int32)] (I, J, rf_w r, sh_w N, n)) R ∧ (∀ v t, R (.inl v) t → mc_WP (147, 51, [.ref 56, .ref a1, .int (1 : Int32)], v.toList ++ [], t, (0, 0)) Q) ∧ (∀ k t, R (.inr k) t → Q (.inr k) t))) ∧
          (¬ ((I (a1 + 2) 1) ≤ 0) →
          (∃ R : mc_Q, mc_WP (mc_en 55 [.int (I (a1 + 2) 1)] (I, J, rf_w r, sh_w N, n)) R ∧ (∀ v t, R (.inl v) t → mc_WP (147, 35, [.ref 56, .ref a1, .int (1 : Int32)], v.toList ++ [.int (2 : Int32), .int (1 : Int32)], t, (0, 0)) Q) ∧ (∀ k t, R (.inr k) t → Q (.inr k) t)))))) :
    mc_WP (mc_en 147 [.ref 56, .ref a1] (I, J, rf_w r, sh_w N, n)) Q := by
  exact (mc_WP.run (mc_adjs _) 3 (And.intro (wd_F (r := r) (N := N) ha1).1 (And.intro (fun c15 => (by have g2 := (h.1 c15); have e3 : rf_w r a1 1 = (a1 + 2) := (wd_F (r := r) (N := N) ha1).2.2.1; have s4 : sh_w N (rf_w r a1 1) = (1, 6) := (by rw [e3]; exact (wd_F (r := r) (N := N) ha1).2.2.2.2.1); have k5 : is_P (rf_w r a1 1) := (by rw [e3]; exact (wd_F (r := r) (N := N) ha1).2.2.2.2.2); (try rw [← e3] at g2); exact (mc_WP.run (mc_adjs _) 6 (And.intro ⟨(wd_F (r := r) (N := N) ha1).1, (wd_Z s4)⟩ (And.intro s4 (And.intro (fun c16 => (mc_WP.run (mc_adjs _) 4 (And.intro ⟨rfl, (show ¬ (54 : Nat) = 0 by decide)⟩ (And.intro rfl (And.intro (by decide) (And.intro (by decide) (g2.1 c16))))))) (fun c16 => (mc_WP.run (mc_adjs _) 6 (And.intro ⟨(wd_F (r := r) (N := N) ha1).1, (wd_Z s4)⟩ (And.intro s4 (And.intro (by decide) (And.intro (by decide) (g2.2 c16))))))))))))) (fun c15 => (mc_WP.run (mc_adjs _) 2 (by have g9 := (h.2 c15); have e10 : rf_w r a1 1 = (a1 + 2) := (wd_F (r := r) (N := N) ha1).2.2.1; have s11 : sh_w N (rf_w r a1 1) = (1, 6) := (by rw [e10]; exact (wd_F (r := r) (N := N) ha1).2.2.2.2.1); have k12 : is_P (rf_w r a1 1) := (by rw [e10]; exact (wd_F (r := r) (N := N) ha1).2.2.2.2.2); (try rw [← e10] at g9); exact (mc_WP.run (mc_adjs _) 5 (And.intro ⟨(wd_F (r := r) (N := N) ha1).1, (wd_Z s11)⟩ (And.intro s11 (And.intro (fun c17 => (mc_WP.run (mc_adjs _) 4 (And.intro ⟨rfl, (show ¬ (54 : Nat) = 0 by decide)⟩ (And.intro rfl (And.intro (by decide) (And.intro (by decide) (g9.1 c17))))))) (fun c17 => (mc_WP.run (mc_adjs _) 6 (And.intro ⟨(wd_F (r := r) (N := N) ha1).1, (wd_Z s11)⟩ (And.intro s11 (And.intro (by decide) (And.intro (by decide) (g9.2 c17)))))))))))))))))
set_option maxRecDepth 20000 in
theorem bk_147_35 {a1 : Nat} {x2 : Int32} {y0 : Int32} {y1 : Int32} {y2 : Int32} (ha1 : is_F a1)
    (h : ∃ R : mc_Q, mc_WP (mc_en 126 [.ref 54, .int (44 : Int32)] (I, J, rf_w r, sh_w N, n)) R ∧ (∀ v t, R (.inl v) t → mc_WP (147, 51, [.ref 56, .ref a1, .int (y0 + (y1 + ((y2 - (1 : Int32)) <<< ((2 : Int32) &&& 31))))], v.toList ++ [], t, (0, 0)) Q) ∧ (∀ k t, R (.inr k) t → Q (.inr k) t)) :
    mc_WP (147, 35, [.ref 56, .ref a1, .int x2], [.int y2, .int y1, .int y0], (I, J, rf_w r, sh_w N, n), (0, 0)) Q := by
  exact (mc_WP.run (mc_adjs _) 11 (And.intro ⟨rfl, (show ¬ (54 : Nat) = 0 by decide)⟩ (And.intro rfl (And.intro (by decide) (And.intro (by decide) h)))))
set_option maxRecDepth 20000 in
theorem bk_147_51 {a1 : Nat} {x2 : Int32} (ha1 : is_F a1)
    (h : ∃ R : mc_Q, mc_WP (mc_en 126 [.ref 54, .int (I a1 2)] (I, J, rf_w r, sh_w N, n)) R ∧ (∀ v t, R (.inl v) t → mc_WP (147, 62, [.ref 56, .ref a1, .int x2], v.toList ++ [], t, (0, 0)) Q) ∧ (∀ k t, R (.inr k) t → Q (.inr k) t)) :
    mc_WP (147, 51, [.ref 56, .ref a1, .int x2], [], (I, J, rf_w r, sh_w N, n), (0, 0)) Q := by
  exact (mc_WP.run (mc_adjs _) 5 (And.intro ⟨rfl, (show ¬ (54 : Nat) = 0 by decide)⟩ (And.intro (wd_F (r := r) (N := N) ha1).1 (And.intro rfl (And.intro (by decide) (And.intro (by decide) h))))))
set_option maxRecDepth 20000 in
theorem bk_147_62 {a1 : Nat} {x2 : Int32} (ha1 : is_F a1)
    (h : ∃ R : mc_Q, mc_WP (mc_en 126 [.ref 54, .int (I a1 3)] (I, J, rf_w r, sh_w N, n)) R ∧ (∀ v t, R (.inl v) t → mc_WP (147, 73, [.ref 56, .ref a1, .int x2], v.toList ++ [], t, (0, 0)) Q) ∧ (∀ k t, R (.inr k) t → Q (.inr k) t)) :
    mc_WP (147, 62, [.ref 56, .ref a1, .int x2], [], (I, J, rf_w r, sh_w N, n), (0, 0)) Q := by
  exact (mc_WP.run (mc_adjs _) 5 (And.intro ⟨rfl, (show ¬ (54 : Nat) = 0 by decide)⟩ (And.intro (wd_F (r := r) (N := N) ha1).1 (And.intro rfl (And.intro (by decide) (And.intro (by decide) h))))))
set_option maxRecDepth 20000 in
theorem bk_147_73 {a1 : Nat} {x2 : Int32} (ha1 : is_F a1)
    (h : ∃ R : mc_Q, mc_WP (mc_en 126 [.ref 54, .int (I a1 4)] (I, J, rf_w r, sh_w N, n)) R ∧ (∀ v t, R (.inl v) t → mc_WP (147, 84, [.ref 56, .ref a1, .int x2], v.toList ++ [], t, (0, 0)) Q) ∧ (∀ k t, R (.inr k) t → Q (.inr k) t)) :
    mc_WP (147, 73, [.ref 56, .ref a1, .int x2], [], (I, J, rf_w r, sh_w N, n), (0, 0)) Q := by
  exact (mc_WP.run (mc_adjs _) 5 (And.intro ⟨rfl, (show ¬ (54 : Nat) = 0 by decide)⟩ (And.intro (wd_F (r := r) (N := N) ha1).1 (And.intro rfl (And.intro (by decide) (And.intro (by decide) h))))))
set_option maxRecDepth 20000 in
theorem bk_147_84 {a1 : Nat} {x2 : Int32} (ha1 : is_F a1)
    (h : ∃ R : mc_Q, mc_WP (mc_en 126 [.ref 54, .int (I a1 5)] (I, J, rf_w r, sh_w N, n)) R ∧ (∀ v t, R (.inl v) t → mc_WP (147, 95, [.ref 56, .ref a1, .int x2], v.toList ++ [], t, (0, 0)) Q) ∧ (∀ k t, R (.inr k) t → Q (.inr k) t)) :
    mc_WP (147, 84, [.ref 56, .ref a1, .int x2], [], (I, J, rf_w r, sh_w N, n), (0, 0)) Q := by
  exact (mc_WP.run (mc_adjs _) 5 (And.intro ⟨rfl, (show ¬ (54 : Nat) = 0 by decide)⟩ (And.intro (wd_F (r := r) (N := N) ha1).1 (And.intro rfl (And.intro (by decide) (And.intro (by decide) h))))))
set_option maxRecDepth 20000 in
theorem bk_147_95 {a1 : Nat} {x2 : Int32} (ha1 : is_F a1)
    (h : ∃ R : mc_Q, mc_WP (mc_en 126 [.ref 54, .int x2] (I, J, rf_w r, sh_w N, n)) R ∧ (∀ v t, R (.inl v) t → mc_WP (147, 103, [.ref 56, .ref a1, .int x2], v.toList ++ [], t, (0, 0)) Q) ∧ (∀ k t, R (.inr k) t → Q (.inr k) t)) :
    mc_WP (147, 95, [.ref 56, .ref a1, .int x2], [], (I, J, rf_w r, sh_w N, n), (0, 0)) Q := by
  exact (mc_WP.run (mc_adjs _) 4 (And.intro ⟨rfl, (show ¬ (54 : Nat) = 0 by decide)⟩ (And.intro rfl (And.intro (by decide) (And.intro (by decide) h)))))
set_option maxRecDepth 20000 in
theorem bk_147_103 {a1 : Nat} {x2 : Int32} (ha1 : is_F a1)
    (h : ∃ R : mc_Q, mc_WP (mc_en 145 [.ref 56, .ref (a1 + 2)] (I, J, rf_w r, sh_w N, n)) R ∧ (∀ v t, R (.inl v) t → mc_WP (147, 111, [.ref 56, .ref a1, .int x2], v.toList ++ [], t, (0, 0)) Q) ∧ (∀ k t, R (.inr k) t → Q (.inr k) t)) :
    mc_WP (147, 103, [.ref 56, .ref a1, .int x2], [], (I, J, rf_w r, sh_w N, n), (0, 0)) Q := by
  exact (by have g1 := h; have e2 : rf_w r a1 1 = (a1 + 2) := (wd_F (r := r) (N := N) ha1).2.2.1; have s3 : sh_w N (rf_w r a1 1) = (1, 6) := (by rw [e2]; exact (wd_F (r := r) (N := N) ha1).2.2.2.2.1); have k4 : is_P (rf_w r a1 1) := (by rw [e2]; exact (wd_F (r := r) (N := N) ha1).2.2.2.2.2); (try rw [← e2] at g1); exact (mc_WP.run (mc_adjs _) 4 (And.intro ⟨(wd_F (r := r) (N := N) ha1).1, (wd_Z s3)⟩ (And.intro rfl (And.intro (by decide) (And.intro (by decide) g1))))))
set_option maxRecDepth 20000 in
theorem bk_147_111 {a1 : Nat} {x2 : Int32} (ha1 : is_F a1)
    (h : Q (.inl none) (I, J, rf_w r, sh_w N, n)) :
    mc_WP (147, 111, [.ref 56, .ref a1, .int x2], [], (I, J, rf_w r, sh_w N, n), (0, 0)) Q := by
  exact (mc_WP.run (mc_adjs _) 1 h)
-- 148 packData(LPaletteReel$Frame;I)V inl<=6
set_option maxRecDepth 20000 in
theorem bk_148_0 {a1 : Nat} {x2 : Int32} (ha1 : is_F a1)
    (h : ∃ R : mc_Q, mc_WP (mc_en 55 [.int x2] (I, J, rf_w r, sh_w N, n)) R ∧ (∀ v t, R (.inl v) t → mc_WP (148, 5, [.ref 56, .ref a1, .int x2, .null], v.toList ++ [.int (2 : Int32)], t, (0, 0)) Q) ∧ (∀ k t, R (.inr k) t → Q (.inr k) t)) :
    mc_WP (mc_en 148 [.ref 56, .ref a1, .int x2] (I, J, rf_w r, sh_w N, n)) Q := by
  exact (mc_WP.run (mc_adjs _) 3 (And.intro (by decide) (And.intro (by decide) h)))
set_option maxRecDepth 20000 in
theorem bk_148_5 {a1 : Nat} {x2 : Int32} {y0 : Int32} {y1 : Int32} (ha1 : is_F a1)
    (h : ((Int32.ofNat 800) ≤ (I 54 1) →
        (∃ R : mc_Q, mc_WP (mc_en 195 [.ref 57, .int (if y0 < y1 then y1 else y0)] ((mc_up (mc_up (mc_up I 63 1 (0 : Int32)) 56 4 (0 : Int32)) 56 5 (0 : Int32)), J, rf_w r, sh_w N, n)) R ∧ (∀ v t, R (.inl v) t → mc_WP (148, 43, [.ref 56, .ref a1, .int x2, .int (if y0 < y1 then y1 else y0)], v.toList ++ [], t, (0, 0)) Q) ∧ (∀ k t, R (.inr k) t → Q (.inr k) t))) ∧
        (¬ ((Int32.ofNat 800) ≤ (I 54 1)) →
        (vp_in (I 54 1) 800 ∧ ∃ R : mc_Q, mc_WP (mc_en 195 [.ref 57, .int (if y0 < y1 then y1 else y0)] ((mc_up (mc_up (mc_up (mc_up (mc_up I 55 (I 54 1).toNatClampNeg (if y0 < y1 then y1 else y0)) 54 1 ((I 54 1) + (1 : Int32))) 63 1 (0 : Int32)) 56 4 (0 : Int32)) 56 5 (0 : Int32)), J, rf_w r, sh_w N, n)) R ∧ (∀ v t, R (.inl v) t → mc_WP (148, 43, [.ref 56, .ref a1, .int x2, .int (if y0 < y1 then y1 else y0)], v.toList ++ [], t, (0, 0)) Q) ∧ (∀ k t, R (.inr k) t → Q (.inr k) t)))) :
    mc_WP (148, 5, [.ref 56, .ref a1, .int x2, .null], [.int y1, .int y0], (I, J, rf_w r, sh_w N, n), (0, 0)) Q := by
  exact (mc_WP.run (mc_adjs _) 6 (And.intro ⟨rfl, (show ¬ (54 : Nat) = 0 by decide)⟩ (And.intro rfl (And.intro (by decide) (And.intro (by decide) (mc_inl (mc_WP.run (mc_adjs _) 6 (And.intro rfl (And.intro ⟨rfl, (show ¬ (55 : Nat) = 0 by decide)⟩ (And.intro (wl_len rfl (by decide) (by decide)) (And.intro (fun c7 => (mc_WP.run (mc_adjs _) 1 (mc_WP.run (mc_adjs _) 14 (And.intro ⟨rfl, (show ¬ (63 : Nat) = 0 by decide)⟩ (And.intro rfl (And.intro rfl (And.intro rfl (And.intro ⟨rfl, (show ¬ (57 : Nat) = 0 by decide)⟩ (And.intro rfl (And.intro (by decide) (And.intro (by decide) (h.1 c7)))))))))))) (fun c7 => (mc_WP.run (mc_adjs _) 13 (And.intro ⟨rfl, (show ¬ (55 : Nat) = 0 by decide)⟩ (And.intro rfl (And.intro (wl_st rfl (h.2 c7).1 (show 10 ≤ (55 : Nat) by decide)) (And.intro rfl (And.intro rfl (mc_WP.run (mc_adjs _) 14 (And.intro ⟨rfl, (show ¬ (63 : Nat) = 0 by decide)⟩ (And.intro rfl (And.intro rfl (And.intro rfl (And.intro ⟨rfl, (show ¬ (57 : Nat) = 0 by decide)⟩ (And.intro rfl (And.intro (by decide) (And.intro (by decide) (h.2 c7).2)))))))))))))))))))))))))))
set_option maxRecDepth 20000 in
theorem bk_148_43 {a1 : Nat} {x2 : Int32} {x3 : Int32} (ha1 : is_F a1)
    (h : ∃ R : mc_Q, mc_WP (mc_en 143 [.ref a1, .ref 62] (I, J, rf_w r, sh_w N, n)) R ∧ (∀ v t, R (.inl v) t → mc_WP (148, 56, [.ref 56, .ref a1, .int x2, .int x3], v.toList ++ [.ref (a1 + 1), .ref 56], t, (0, 0)) Q) ∧ (∀ k t, R (.inr k) t → Q (.inr k) t)) :
    mc_WP (148, 43, [.ref 56, .ref a1, .int x2, .int x3], [], (I, J, rf_w r, sh_w N, n), (0, 0)) Q := by
  exact (by have g1 := h; have e2 : rf_w r a1 0 = (a1 + 1) := (wd_F (r := r) (N := N) ha1).2.1; have s3 : sh_w N (rf_w r a1 0) = (2, 64) := (by rw [e2]; exact (wd_F (r := r) (N := N) ha1).2.2.2.1); have ts3 : 10 ≤ rf_w r a1 0 := (by rw [e2]; exact wd_tF ha1 _); (try rw [← e2] at g1); exact (mc_WP.run (mc_adjs _) 7 (And.intro ⟨(wd_F (r := r) (N := N) ha1).1, (wd_Z s3)⟩ (And.intro ⟨rfl, (show ¬ (62 : Nat) = 0 by decide)⟩ (And.intro (wd_F (r := r) (N := N) ha1).1 (And.intro (by decide) (And.intro (by decide) g1)))))))
set_option maxRecDepth 20000 in
theorem bk_148_56 {a1 : Nat} {x2 : Int32} {x3 : Int32} {b1 : Nat} {b1z : Nat} {y2 : Int32} (ha1 : is_F a1) (hb1 : sh_w N b1 = (2, b1z))
    (h : ∃ R : mc_Q, mc_WP (mc_en 149 [.ref 56, .ref b1, .int y2] (I, J, rf_w r, sh_w N, n)) R ∧ (∀ v t, R (.inl v) t → mc_WP (148, 59, [.ref 56, .ref a1, .int x2, .int x3], v.toList ++ [], t, (0, 0)) Q) ∧ (∀ k t, R (.inr k) t → Q (.inr k) t)) :
    mc_WP (148, 56, [.ref 56, .ref a1, .int x2, .int x3], [.int y2, .ref b1, .ref 56], (I, J, rf_w r, sh_w N, n), (0, 0)) Q := by
  exact (mc_WP.run (mc_adjs _) 1 (And.intro rfl (And.intro (by decide) (And.intro (by decide) h))))
set_option maxRecDepth 20000 in
theorem bk_148_59 {a1 : Nat} {x2 : Int32} {x3 : Int32} (ha1 : is_F a1)
    (h : ((I 56 5) ≤ 0 →
        (∃ R : mc_Q, mc_WP (mc_en 153 [.ref 56] (I, J, rf_w r, sh_w N, n)) R ∧ (∀ v t, R (.inl v) t → mc_WP (148, 81, [.ref 56, .ref a1, .int x2, .int x3], v.toList ++ [], t, (0, 0)) Q) ∧ (∀ k t, R (.inr k) t → Q (.inr k) t))) ∧
        (¬ ((I 56 5) ≤ 0) →
        (((Int32.ofNat 64) ≤ (I 63 1) →
          (∃ R : mc_Q, mc_WP (mc_en 153 [.ref 56] (I, J, rf_w r, sh_w N, n)) R ∧ (∀ v t, R (.inl v) t → mc_WP (148, 81, [.ref 56, .ref a1, .int x2, .int x3], v.toList ++ [], t, (0, 0)) Q) ∧ (∀ k t, R (.inr k) t → Q (.inr k) t))) ∧
          (¬ ((Int32.ofNat 64) ≤ (I 63 1)) →
          (vp_in (I 63 1) 64 ∧ ∃ R : mc_Q, mc_WP (mc_en 153 [.ref 56] ((mc_up (mc_up I 64 (I 63 1).toNatClampNeg (I 56 4)) 63 1 ((I 63 1) + (1 : Int32))), J, rf_w r, sh_w N, n)) R ∧ (∀ v t, R (.inl v) t → mc_WP (148, 81, [.ref 56, .ref a1, .int x2, .int x3], v.toList ++ [], t, (0, 0)) Q) ∧ (∀ k t, R (.inr k) t → Q (.inr k) t)))))) :
    mc_WP (148, 59, [.ref 56, .ref a1, .int x2, .int x3], [], (I, J, rf_w r, sh_w N, n), (0, 0)) Q := by
  exact (mc_WP.run (mc_adjs _) 3 (And.intro rfl (And.intro (fun c9 => (mc_WP.run (mc_adjs _) 2 (And.intro rfl (And.intro (by decide) (And.intro (by decide) (h.1 c9)))))) (fun c9 => (mc_WP.run (mc_adjs _) 5 (And.intro ⟨rfl, (show ¬ (63 : Nat) = 0 by decide)⟩ (And.intro rfl (And.intro rfl (And.intro (by decide) (And.intro (by decide) (mc_inl (mc_WP.run (mc_adjs _) 6 (And.intro rfl (And.intro ⟨rfl, (show ¬ (64 : Nat) = 0 by decide)⟩ (And.intro (wl_len rfl (by decide) (by decide)) (And.intro (fun c10 => (mc_WP.run (mc_adjs _) 1 (mc_WP.run (mc_adjs _) 2 (And.intro rfl (And.intro (by decide) (And.intro (by decide) ((h.2 c9).1 c10))))))) (fun c10 => (mc_WP.run (mc_adjs _) 13 (And.intro ⟨rfl, (show ¬ (64 : Nat) = 0 by decide)⟩ (And.intro rfl (And.intro (wl_st rfl ((h.2 c9).2 c10).1 (show 10 ≤ (64 : Nat) by decide)) (And.intro rfl (And.intro rfl (mc_WP.run (mc_adjs _) 2 (And.intro rfl (And.intro (by decide) (And.intro (by decide) ((h.2 c9).2 c10).2)))))))))))))))))))))))))))
set_option maxRecDepth 20000 in
theorem bk_148_81 {a1 : Nat} {x2 : Int32} {x3 : Int32} (ha1 : is_F a1)
    (h : Q (.inl none) (I, J, rf_w r, sh_w N, n)) :
    mc_WP (148, 81, [.ref 56, .ref a1, .int x2, .int x3], [], (I, J, rf_w r, sh_w N, n), (0, 0)) Q := by
  exact (mc_WP.run (mc_adjs _) 1 h)
-- 149 packCodes([II)V inl<=6
set_option maxRecDepth 20000 in
theorem bk_149_0 {a1 : Nat} {a1z : Nat} {x2 : Int32} (ha1 : sh_w N a1 = (2, a1z))
    (h : ∃ R : mc_Q, mc_WP (mc_en 151 [.ref 56, .int (I 57 4)] (I, J, rf_w r, sh_w N, n)) R ∧ (∀ v t, R (.inl v) t → mc_WP (149, 11, [.ref 56, .ref a1, .int x2, .null, .null], v.toList ++ [], t, (0, 0)) Q) ∧ (∀ k t, R (.inr k) t → Q (.inr k) t)) :
    mc_WP (mc_en 149 [.ref 56, .ref a1, .int x2] (I, J, rf_w r, sh_w N, n)) Q := by
  exact (mc_WP.run (mc_adjs _) 5 (And.intro ⟨rfl, (show ¬ (57 : Nat) = 0 by decide)⟩ (And.intro rfl (And.intro rfl (And.intro (by decide) (And.intro (by decide) h))))))
set_option maxRecDepth 20000 in
theorem bk_149_11 {a1 : Nat} {a1z : Nat} {x2 : Int32} (ha1 : sh_w N a1 = (2, a1z))
    (h : mc_WP (149, 16, [.ref 56, .ref a1, .int x2, .int (0 : Int32), .int (0 : Int32)], [], (I, J, rf_w r, sh_w N, n), (0, 0)) Q) :
    mc_WP (149, 11, [.ref 56, .ref a1, .int x2, .null, .null], [], (I, J, rf_w r, sh_w N, n), (0, 0)) Q := by
  exact (mc_WP.run (mc_adjs _) 4 h)
set_option maxRecDepth 20000 in
theorem bk_149_16 {a1 : Nat} {a1z : Nat} {x2 : Int32} {x3 : Int32} {x4 : Int32} (ha1 : sh_w N a1 = (2, a1z))
    (h : (x2 ≤ x4 →
        (∃ R : mc_Q, mc_WP (mc_en 151 [.ref 56, .int (I 57 5)] (I, J, rf_w r, sh_w N, n)) R ∧ (∀ v t, R (.inl v) t → mc_WP (149, 87, [.ref 56, .ref a1, .int x2, .int x3, .int x4], v.toList ++ [], t, (0, 0)) Q) ∧ (∀ k t, R (.inr k) t → Q (.inr k) t))) ∧
        (¬ (x2 ≤ x4) →
        ((x2 ≤ x3 →
          (∃ R : mc_Q, mc_WP (mc_en 151 [.ref 56, .int (I 57 5)] (I, J, rf_w r, sh_w N, n)) R ∧ (∀ v t, R (.inl v) t → mc_WP (149, 87, [.ref 56, .ref a1, .int x2, .int x3, .int x4], v.toList ++ [], t, (0, 0)) Q) ∧ (∀ k t, R (.inr k) t → Q (.inr k) t))) ∧
          (¬ (x2 ≤ x3) →
          (∃ R : mc_Q, mc_WP (mc_en 150 [.ref 56, .ref a1, .int x3, .int x2] (I, J, rf_w r, sh_w N, n)) R ∧ (∀ v t, R (.inl v) t → mc_WP (149, 35, [.ref 56, .ref a1, .int x2, .int x3, .int x4], v.toList ++ [.int x3], t, (0, 0)) Q) ∧ (∀ k t, R (.inr k) t → Q (.inr k) t)))))) :
    mc_WP (149, 16, [.ref 56, .ref a1, .int x2, .int x3, .int x4], [], (I, J, rf_w r, sh_w N, n), (0, 0)) Q := by
  exact (mc_WP.run (mc_adjs _) 3 (And.intro (fun c6 => (mc_WP.run (mc_adjs _) 5 (And.intro ⟨rfl, (show ¬ (57 : Nat) = 0 by decide)⟩ (And.intro rfl (And.intro rfl (And.intro (by decide) (And.intro (by decide) (h.1 c6)))))))) (fun c6 => (mc_WP.run (mc_adjs _) 3 (And.intro (fun c7 => (mc_WP.run (mc_adjs _) 5 (And.intro ⟨rfl, (show ¬ (57 : Nat) = 0 by decide)⟩ (And.intro rfl (And.intro rfl (And.intro (by decide) (And.intro (by decide) ((h.2 c6).1 c7)))))))) (fun c7 => (mc_WP.run (mc_adjs _) 6 (And.intro rfl (And.intro (by decide) (And.intro (by decide) ((h.2 c6).2 c7)))))))))))
set_option maxRecDepth 20000 in
theorem bk_149_35 {a1 : Nat} {a1z : Nat} {x2 : Int32} {x3 : Int32} {x4 : Int32} {y0 : Int32} {y1 : Int32} (ha1 : sh_w N a1 = (2, a1z))
    (h : ((I 57 6) ≤ (63 : Int32) →
        (mc_WP (149, 16, [.ref 56, .ref a1, .int x2, .int (y0 + y1), .int (x4 + (1 : Int32))], [], (I, J, rf_w r, sh_w N, n), (0, 0)) Q)) ∧
        (¬ ((I 57 6) ≤ (63 : Int32)) →
        ((x2 ≤ (y0 + y1) →
          (mc_WP (149, 16, [.ref 56, .ref a1, .int x2, .int (y0 + y1), .int (x4 + (1 : Int32))], [], (I, J, rf_w r, sh_w N, n), (0, 0)) Q)) ∧
          (¬ (x2 ≤ (y0 + y1)) →
          (∃ R : mc_Q, mc_WP (mc_en 151 [.ref 56, .int (I 57 4)] (I, J, rf_w r, sh_w N, n)) R ∧ (∀ v t, R (.inl v) t → mc_WP (149, 63, [.ref 56, .ref a1, .int x2, .int (y0 + y1), .int x4], v.toList ++ [], t, (0, 0)) Q) ∧ (∀ k t, R (.inr k) t → Q (.inr k) t)))))) :
    mc_WP (149, 35, [.ref 56, .ref a1, .int x2, .int x3, .int x4], [.int y1, .int y0], (I, J, rf_w r, sh_w N, n), (0, 0)) Q := by
  exact (mc_WP.run (mc_adjs _) 5 (And.intro ⟨rfl, (show ¬ (57 : Nat) = 0 by decide)⟩ (And.intro rfl (And.intro (by decide) (And.intro (by decide) (mc_inl (mc_WP.run (mc_adjs _) 4 (And.intro rfl (And.intro (fun c12 => (mc_WP.run (mc_adjs _) 2 (And.intro (by decide) (mc_WP.run (mc_adjs _) 1 (And.intro (fun _ => (mc_WP.run (mc_adjs _) 2 (h.1 c12))) (fun c => absurd (show (0 : Int32) = 0 by decide) c)))))) (fun c12 => (mc_WP.run (mc_adjs _) 2 (mc_WP.run (mc_adjs _) 1 (And.intro (by decide) (mc_WP.run (mc_adjs _) 1 (And.intro (fun c => absurd c (show ¬ ((1 : Int32) = 0) by decide)) (fun _ => (mc_WP.run (mc_adjs _) 3 (And.intro (fun c13 => (mc_WP.run (mc_adjs _) 2 ((h.2 c12).1 c13))) (fun c13 => (mc_WP.run (mc_adjs _) 5 (And.intro ⟨rfl, (show ¬ (57 : Nat) = 0 by decide)⟩ (And.intro rfl (And.intro rfl (And.intro (by decide) (And.intro (by decide) ((h.2 c12).2 c13))))))))))))))))))))))))))
set_option maxRecDepth 20000 in
theorem bk_149_63 {a1 : Nat} {a1z : Nat} {x2 : Int32} {x3 : Int32} {x4 : Int32} (ha1 : sh_w N a1 = (2, a1z))
    (h : mc_WP (149, 16, [.ref 56, .ref a1, .int x2, .int x3, .int (x4 + (1 : Int32))], [], ((mc_up (mc_up I 57 6 ((I 57 5) + (1 : Int32))) 57 7 (-1 : Int32)), J, rf_w r, sh_w N, n), (0, 0)) Q) :
    mc_WP (149, 63, [.ref 56, .ref a1, .int x2, .int x3, .int x4], [], (I, J, rf_w r, sh_w N, n), (0, 0)) Q := by
  exact (mc_WP.run (mc_adjs _) 3 (And.intro ⟨rfl, (show ¬ (57 : Nat) = 0 by decide)⟩ (And.intro rfl (And.intro (by decide) (And.intro (by decide) (mc_inl (mc_WP.run (mc_adjs _) 10 (And.intro rfl (And.intro rfl (And.intro rfl (mc_WP.run (mc_adjs _) 2 h)))))))))))
set_option maxRecDepth 20000 in
theorem bk_149_87 {a1 : Nat} {a1z : Nat} {x2 : Int32} {x3 : Int32} {x4 : Int32} (ha1 : sh_w N a1 = (2, a1z))
    (h : Q (.inl none) (I, J, rf_w r, sh_w N, n)) :
    mc_WP (149, 87, [.ref 56, .ref a1, .int x2, .int x3, .int x4], [], (I, J, rf_w r, sh_w N, n), (0, 0)) Q := by
  exact (mc_WP.run (mc_adjs _) 1 h)
-- 150 packString([III)I inl<=6
set_option maxRecDepth 20000 in
theorem bk_150_0 {a1 : Nat} {a1z : Nat} {x2 : Int32} {x3 : Int32} (ha1 : sh_w N a1 = (2, a1z))
    (h : ∃ R : mc_Q, mc_WP (mc_en 199 [.ref 57] (I, J, rf_w r, sh_w N, n)) R ∧ (∀ v t, R (.inl v) t → mc_WP (150, 7, [.ref 56, .ref a1, .int x2, .int x3, .null, .null, .null, .null, .null], v.toList ++ [], t, (0, 0)) Q) ∧ (∀ k t, R (.inr k) t → Q (.inr k) t)) :
    mc_WP (mc_en 150 [.ref 56, .ref a1, .int x2, .int x3] (I, J, rf_w r, sh_w N, n)) Q := by
  exact (mc_WP.run (mc_adjs _) 3 (And.intro ⟨rfl, (show ¬ (57 : Nat) = 0 by decide)⟩ (And.intro rfl (And.intro (by decide) (And.intro (by decide) h)))))
set_option maxRecDepth 20000 in
theorem bk_150_7 {a1 : Nat} {a1z : Nat} {x2 : Int32} {x3 : Int32} {y0 : Int32} (ha1 : sh_w N a1 = (2, a1z))
    (h : vp_in x2 64 ∧ vp_in (I 62 x2.toNatClampNeg) a1z ∧ ((I 57 7) = (-1 : Int32) →
        (mc_WP (150, 36, [.ref 56, .ref a1, .int x2, .int x3, .int y0, .int (I a1 (I 62 x2.toNatClampNeg).toNatClampNeg), .int (1 : Int32), .int (x2 + (1 : Int32)), .null], [], (I, J, rf_w r, sh_w N, n), (0, 0)) Q)) ∧
        (¬ ((I 57 7) = (-1 : Int32)) →
        (((63 : Int32) < (I 57 6) →
          (mc_WP (150, 36, [.ref 56, .ref a1, .int x2, .int x3, .int y0, .int (I a1 (I 62 x2.toNatClampNeg).toNatClampNeg), .int (1 : Int32), .int (x2 + (1 : Int32)), .null], [], (I, J, rf_w r, sh_w N, n), (0, 0)) Q)) ∧
          (¬ ((63 : Int32) < (I 57 6)) →
          (vp_in (I 57 6) 64 ∧ vp_in (I 57 7) 64 ∧ vp_in (I 57 6) 64 ∧ vp_in (I 57 6) 64 ∧ vp_in (I 57 7) 64 ∧ vp_in (I 57 6) 64 ∧ mc_WP (150, 36, [.ref 56, .ref a1, .int x2, .int x3, .int y0, .int (I a1 (I 62 x2.toNatClampNeg).toNatClampNeg), .int (1 : Int32), .int (x2 + (1 : Int32)), .null], [], ((mc_up (mc_up (mc_up (mc_up (mc_up I 58 (I 57 6).toNatClampNeg (I 57 7)) 59 (I 57 6).toNatClampNeg (I 59 (I 57 7).toNatClampNeg)) 60 (I 57 6).toNatClampNeg (I a1 (I 62 x2.toNatClampNeg).toNatClampNeg)) 61 (I 57 6).toNatClampNeg ((I 61 (I 57 7).toNatClampNeg) + (1 : Int32))) 57 6 ((I 57 6) + (1 : Int32))), J, rf_w r, sh_w N, n), (0, 0)) Q))))) :
    mc_WP (150, 7, [.ref 56, .ref a1, .int x2, .int x3, .null, .null, .null, .null, .null], [.int y0], (I, J, rf_w r, sh_w N, n), (0, 0)) Q := by
  exact (mc_WP.run (mc_adjs _) 12 (And.intro ⟨rfl, (show ¬ (62 : Nat) = 0 by decide)⟩ (And.intro (wl_ld rfl h.1) (And.intro (wl_ld ha1 h.2.1) (And.intro ⟨rfl, (show ¬ (57 : Nat) = 0 by decide)⟩ (And.intro rfl (And.intro (by decide) (And.intro (by decide) (mc_inl (mc_WP.run (mc_adjs _) 2 (And.intro rfl (And.intro (by decide) (And.intro (by decide) (mc_inl (mc_WP.run (mc_adjs _) 4 (And.intro rfl (And.intro (fun c18 => (mc_WP.run (mc_adjs _) 2 (And.intro (by decide) (mc_WP.run (mc_adjs _) 1 (And.intro (fun _ => (mc_WP.run (mc_adjs _) 1 (mc_WP.run (mc_adjs _) 6 (h.2.2.1 c18)))) (fun c => absurd (show (0 : Int32) = 0 by decide) c)))))) (fun c18 => (mc_WP.run (mc_adjs _) 4 (And.intro rfl (And.intro (fun c19 => (mc_WP.run (mc_adjs _) 2 (And.intro (by decide) (mc_WP.run (mc_adjs _) 1 (And.intro (fun _ => (mc_WP.run (mc_adjs _) 1 (mc_WP.run (mc_adjs _) 6 ((h.2.2.2 c18).1 c19)))) (fun c => absurd (show (0 : Int32) = 0 by decide) c)))))) (fun c19 => (mc_WP.run (mc_adjs _) 2 (mc_WP.run (mc_adjs _) 1 (And.intro (by decide) (mc_WP.run (mc_adjs _) 1 (And.intro (fun c => absurd c (show ¬ ((1 : Int32) = 0) by decide)) (fun _ => (mc_WP.run (mc_adjs _) 42 (And.intro ⟨rfl, (show ¬ (58 : Nat) = 0 by decide)⟩ (And.intro rfl (And.intro rfl (And.intro (wl_st rfl ((h.2.2.2 c18).2 c19).1 (show 10 ≤ (58 : Nat) by decide)) (And.intro ⟨rfl, (show ¬ (59 : Nat) = 0 by decide)⟩ (And.intro rfl (And.intro ⟨rfl, (show ¬ (59 : Nat) = 0 by decide)⟩ (And.intro rfl (And.intro (wl_ld rfl ((h.2.2.2 c18).2 c19).2.1) (And.intro (wl_st rfl ((h.2.2.2 c18).2 c19).2.2.1 (show 10 ≤ (59 : Nat) by decide)) (And.intro ⟨rfl, (show ¬ (60 : Nat) = 0 by decide)⟩ (And.intro rfl (And.intro (wl_st rfl ((h.2.2.2 c18).2 c19).2.2.2.1 (show 10 ≤ (60 : Nat) by decide)) (And.intro ⟨rfl, (show ¬ (61 : Nat) = 0 by decide)⟩ (And.intro rfl (And.intro ⟨rfl, (show ¬ (61 : Nat) = 0 by decide)⟩ (And.intro rfl (And.intro (wl_ld rfl ((h.2.2.2 c18).2 c19).2.2.2.2.1) (And.intro (wl_st rfl ((h.2.2.2 c18).2 c19).2.2.2.2.2.1 (show 10 ≤ (61 : Nat) by decide)) (And.intro rfl (And.intro rfl (mc_WP.run (mc_adjs _) 6 ((h.2.2.2 c18).2 c19).2.2.2.2.2.2)))))))))))))))))))))))))))))))))))))))))))))))))))
set_option maxRecDepth 20000 in
theorem bk_150_36 {a1 : Nat} {a1z : Nat} {x2 : Int32} {x3 : Int32} {x4 : Int32} {x5 : Int32} {x6 : Int32} {x7 : Int32} {x8 : Value} (ha1 : sh_w N a1 = (2, a1z))
    (h : (x3 ≤ x7 →
        (∃ R : mc_Q, mc_WP (mc_en 152 [.ref 56, .int x5, .int x4] (I, J, rf_w r, sh_w N, n)) R ∧ (∀ v t, R (.inl v) t → mc_WP (150, 92, [.ref 56, .ref a1, .int x2, .int x3, .int x4, .int x5, .int x6, .int x7, x8], v.toList ++ [], t, (0, 0)) Q) ∧ (∀ k t, R (.inr k) t → Q (.inr k) t))) ∧
        (¬ (x3 ≤ x7) →
        (vp_in x7 64 ∧ vp_in (I 62 x7.toNatClampNeg) a1z ∧ ∃ R : mc_Q, mc_WP (mc_en 203 [.ref 57, .int x5, .int (I a1 (I 62 x7.toNatClampNeg).toNatClampNeg)] (I, J, rf_w r, sh_w N, n)) R ∧ (∀ v t, R (.inl v) t → mc_WP (150, 60, [.ref 56, .ref a1, .int x2, .int x3, .int x4, .int x5, .int x6, .int x7, x8], v.toList ++ [], t, (0, 0)) Q) ∧ (∀ k t, R (.inr k) t → Q (.inr k) t)))) :
    mc_WP (150, 36, [.ref 56, .ref a1, .int x2, .int x3, .int x4, .int x5, .int x6, .int x7, x8], [], (I, J, rf_w r, sh_w N, n), (0, 0)) Q := by
  exact (mc_WP.run (mc_adjs _) 3 (And.intro (fun c4 => (mc_WP.run (mc_adjs _) 4 (And.intro rfl (And.intro (by decide) (And.intro (by decide) (h.1 c4)))))) (fun c4 => (mc_WP.run (mc_adjs _) 10 (And.intro ⟨rfl, (show ¬ (57 : Nat) = 0 by decide)⟩ (And.intro ⟨rfl, (show ¬ (62 : Nat) = 0 by decide)⟩ (And.intro (wl_ld rfl (h.2 c4).1) (And.intro (wl_ld ha1 (h.2 c4).2.1) (And.intro rfl (And.intro (by decide) (And.intro (by decide) (h.2 c4).2.2)))))))))))
set_option maxRecDepth 20000 in
theorem bk_150_60 {a1 : Nat} {a1z : Nat} {x2 : Int32} {x3 : Int32} {x4 : Int32} {x5 : Int32} {x6 : Int32} {x7 : Int32} {x8 : Value} {y0 : Int32} (ha1 : sh_w N a1 = (2, a1z))
    (h : (¬ y0 = (-1 : Int32) →
        (mc_WP (150, 36, [.ref 56, .ref a1, .int x2, .int x3, .int x4, .int y0, .int (x6 + (1 : Int32)), .int (x7 + (1 : Int32)), .int y0], [], (I, J, rf_w r, sh_w N, n), (0, 0)) Q)) ∧
        (¬ (¬ y0 = (-1 : Int32)) →
        (∃ R : mc_Q, mc_WP (mc_en 152 [.ref 56, .int x5, .int x4] (I, J, rf_w r, sh_w N, n)) R ∧ (∀ v t, R (.inl v) t → mc_WP (150, 92, [.ref 56, .ref a1, .int x2, .int x3, .int x4, .int x5, .int x6, .int x7, .int y0], v.toList ++ [], t, (0, 0)) Q) ∧ (∀ k t, R (.inr k) t → Q (.inr k) t)))) :
    mc_WP (150, 60, [.ref 56, .ref a1, .int x2, .int x3, .int x4, .int x5, .int x6, .int x7, x8], [.int y0], (I, J, rf_w r, sh_w N, n), (0, 0)) Q := by
  exact (mc_WP.run (mc_adjs _) 4 (And.intro (fun c5 => (mc_WP.run (mc_adjs _) 5 (h.1 c5))) (fun c5 => (mc_WP.run (mc_adjs _) 1 (mc_WP.run (mc_adjs _) 4 (And.intro rfl (And.intro (by decide) (And.intro (by decide) (h.2 c5)))))))))
set_option maxRecDepth 20000 in
theorem bk_150_92 {a1 : Nat} {a1z : Nat} {x2 : Int32} {x3 : Int32} {x4 : Int32} {x5 : Int32} {x6 : Int32} {x7 : Int32} {x8 : Value} (ha1 : sh_w N a1 = (2, a1z))
    (h : Q (.inl (some (.int x6))) ((mc_up I 57 7 x5), J, rf_w r, sh_w N, n)) :
    mc_WP (150, 92, [.ref 56, .ref a1, .int x2, .int x3, .int x4, .int x5, .int x6, .int x7, x8], [], (I, J, rf_w r, sh_w N, n), (0, 0)) Q := by
  exact (mc_WP.run (mc_adjs _) 6 (And.intro ⟨rfl, (show ¬ (57 : Nat) = 0 by decide)⟩ (And.intro rfl h)))
-- 151 packCode(I)V inl<=6
set_option maxRecDepth 20000 in
theorem bk_151_0 {x1 : Int32}
    (h : ∃ R : mc_Q, mc_WP (mc_en 199 [.ref 57] (I, J, rf_w r, sh_w N, n)) R ∧ (∀ v t, R (.inl v) t → mc_WP (151, 9, [.ref 56, .int x1], v.toList ++ [.int x1, .ref 56], t, (0, 0)) Q) ∧ (∀ k t, R (.inr k) t → Q (.inr k) t)) :
    mc_WP (mc_en 151 [.ref 56, .int x1] (I, J, rf_w r, sh_w N, n)) Q := by
  exact (mc_WP.run (mc_adjs _) 5 (And.intro ⟨rfl, (show ¬ (57 : Nat) = 0 by decide)⟩ (And.intro rfl (And.intro (by decide) (And.intro (by decide) h)))))
set_option maxRecDepth 20000 in
theorem bk_151_9 {x1 : Int32} {y1 : Int32} {y2 : Int32}
    (h : ∃ R : mc_Q, mc_WP (mc_en 152 [.ref 56, .int y1, .int y2] (I, J, rf_w r, sh_w N, n)) R ∧ (∀ v t, R (.inl v) t → mc_WP (151, 12, [.ref 56, .int x1], v.toList ++ [], t, (0, 0)) Q) ∧ (∀ k t, R (.inr k) t → Q (.inr k) t)) :
    mc_WP (151, 9, [.ref 56, .int x1], [.int y2, .int y1, .ref 56], (I, J, rf_w r, sh_w N, n), (0, 0)) Q := by
  exact (mc_WP.run (mc_adjs _) 1 (And.intro rfl (And.intro (by decide) (And.intro (by decide) h))))
set_option maxRecDepth 20000 in
theorem bk_151_12 {x1 : Int32}
    (h : Q (.inl none) (I, J, rf_w r, sh_w N, n)) :
    mc_WP (151, 12, [.ref 56, .int x1], [], (I, J, rf_w r, sh_w N, n), (0, 0)) Q := by
  exact (mc_WP.run (mc_adjs _) 1 h)
-- 152 packBits(II)V inl<=6
set_option maxRecDepth 20000 in
theorem bk_152_0 {x1 : Int32} {x2 : Int32}
    (h : mc_WP (152, 2, [.ref 56, .int x1, .int x2, .int (0 : Int32)], [], (I, J, rf_w r, sh_w N, n), (0, 0)) Q) :
    mc_WP (mc_en 152 [.ref 56, .int x1, .int x2] (I, J, rf_w r, sh_w N, n)) Q := by
  exact (mc_WP.run (mc_adjs _) 2 h)
set_option maxRecDepth 20000 in
theorem bk_152_2 {x1 : Int32} {x2 : Int32} {x3 : Int32}
    (h : (x2 ≤ x3 → (Q (.inl none) (I, J, rf_w r, sh_w N, n))) ∧
        (¬ (x2 ≤ x3) →
        ((¬ ((I 56 5) + (1 : Int32)) = (8 : Int32) →
          (mc_WP (152, 2, [.ref 56, .int x1, .int x2, .int (x3 + (1 : Int32))], [], ((mc_up (mc_up I 56 4 ((I 56 4) ||| (((x1 >>> (x3 &&& 31)) &&& (1 : Int32)) <<< ((I 56 5) &&& 31)))) 56 5 ((I 56 5) + (1 : Int32))), J, rf_w r, sh_w N, n), (0, 0)) Q)) ∧
          (¬ (¬ ((I 56 5) + (1 : Int32)) = (8 : Int32)) →
          (((Int32.ofNat 64) ≤ (I 63 1) →
            (mc_WP (152, 2, [.ref 56, .int x1, .int x2, .int (x3 + (1 : Int32))], [], ((mc_up (mc_up (mc_up (mc_up I 56 4 ((I 56 4) ||| (((x1 >>> (x3 &&& 31)) &&& (1 : Int32)) <<< ((I 56 5) &&& 31)))) 56 5 ((I 56 5) + (1 : Int32))) 56 4 (0 : Int32)) 56 5 (0 : Int32)), J, rf_w r, sh_w N, n), (0, 0)) Q)) ∧
            (¬ ((Int32.ofNat 64) ≤ (I 63 1)) →
            (vp_in (I 63 1) 64 ∧ mc_WP (152, 2, [.ref 56, .int x1, .int x2, .int (x3 + (1 : Int32))], [], ((mc_up (mc_up (mc_up (mc_up (mc_up (mc_up I 56 4 ((I 56 4) ||| (((x1 >>> (x3 &&& 31)) &&& (1 : Int32)) <<< ((I 56 5) &&& 31)))) 56 5 ((I 56 5) + (1 : Int32))) 64 (I 63 1).toNatClampNeg ((I 56 4) ||| (((x1 >>> (x3 &&& 31)) &&& (1 : Int32)) <<< ((I 56 5) &&& 31)))) 63 1 ((I 63 1) + (1 : Int32))) 56 4 (0 : Int32)) 56 5 (0 : Int32)), J, rf_w r, sh_w N, n), (0, 0)) Q))))))) :
    mc_WP (152, 2, [.ref 56, .int x1, .int x2, .int x3], [], (I, J, rf_w r, sh_w N, n), (0, 0)) Q := by
  exact (mc_WP.run (mc_adjs _) 3 (And.intro (fun c11 => (mc_WP.run (mc_adjs _) 1 (h.1 c11))) (fun c11 => (mc_WP.run (mc_adjs _) 23 (And.intro rfl (And.intro rfl (And.intro rfl (And.intro rfl (And.intro rfl (And.intro rfl (And.intro (fun c12 => (mc_WP.run (mc_adjs _) 2 ((h.2 c11).1 c12))) (fun c12 => (mc_WP.run (mc_adjs _) 5 (And.intro ⟨rfl, (show ¬ (63 : Nat) = 0 by decide)⟩ (And.intro rfl (And.intro rfl (And.intro (by decide) (And.intro (by decide) (mc_inl (mc_WP.run (mc_adjs _) 6 (And.intro rfl (And.intro ⟨rfl, (show ¬ (64 : Nat) = 0 by decide)⟩ (And.intro (wl_len rfl (by decide) (by decide)) (And.intro (fun c13 => (mc_WP.run (mc_adjs _) 1 (mc_WP.run (mc_adjs _) 8 (And.intro rfl (And.intro rfl (((h.2 c11).2 c12).1 c13)))))) (fun c13 => (mc_WP.run (mc_adjs _) 13 (And.intro ⟨rfl, (show ¬ (64 : Nat) = 0 by decide)⟩ (And.intro rfl (And.intro (wl_st rfl (((h.2 c11).2 c12).2 c13).1 (show 10 ≤ (64 : Nat) by decide)) (And.intro rfl (And.intro rfl (mc_WP.run (mc_adjs _) 8 (And.intro rfl (And.intro rfl (((h.2 c11).2 c12).2 c13).2))))))))))))))))))))))))))))))))))
-- 153 packBlocks()V inl<=6
set_option maxRecDepth 20000 in
theorem bk_153_0
    (h : mc_WP (153, 2, [.ref 56, .int (0 : Int32), .null, .null], [], (I, J, rf_w r, sh_w N, n), (0, 0)) Q) :
    mc_WP (mc_en 153 [.ref 56] (I, J, rf_w r, sh_w N, n)) Q := by
  exact (mc_WP.run (mc_adjs _) 2 h)
set_option maxRecDepth 20000 in
theorem bk_153_2 {x1 : Int32} {x2 : Value} {x3 : Value}
    (h : ((I 63 1) ≤ x1 →
        (((Int32.ofNat 800) ≤ (I 54 1) → (Q (.inl none) (I, J, rf_w r, sh_w N, n))) ∧
          (¬ ((Int32.ofNat 800) ≤ (I 54 1)) →
          (vp_in (I 54 1) 800 ∧ Q (.inl none) ((mc_up (mc_up I 55 (I 54 1).toNatClampNeg (0 : Int32)) 54 1 ((I 54 1) + (1 : Int32))), J, rf_w r, sh_w N, n))))) ∧
        (¬ ((I 63 1) ≤ x1) →
        (((Int32.ofNat 800) ≤ (I 54 1) →
          (mc_WP (153, 40, [.ref 56, .int x1, .int (if (x1 + (20 : Int32)) < (I 63 1) then (x1 + (20 : Int32)) else (I 63 1)), .int x1], [], (I, J, rf_w r, sh_w N, n), (0, 0)) Q)) ∧
          (¬ ((Int32.ofNat 800) ≤ (I 54 1)) →
          (vp_in (I 54 1) 800 ∧ mc_WP (153, 40, [.ref 56, .int x1, .int (if (x1 + (20 : Int32)) < (I 63 1) then (x1 + (20 : Int32)) else (I 63 1)), .int x1], [], ((mc_up (mc_up I 55 (I 54 1).toNatClampNeg ((if (x1 + (20 : Int32)) < (I 63 1) then (x1 + (20 : Int32)) else (I 63 1)) - x1)) 54 1 ((I 54 1) + (1 : Int32))), J, rf_w r, sh_w N, n), (0, 0)) Q))))) :
    mc_WP (153, 2, [.ref 56, .int x1, x2, x3], [], (I, J, rf_w r, sh_w N, n), (0, 0)) Q := by
  exact (mc_WP.run (mc_adjs _) 5 (And.intro ⟨rfl, (show ¬ (63 : Nat) = 0 by decide)⟩ (And.intro rfl (And.intro (fun c14 => (mc_WP.run (mc_adjs _) 4 (And.intro ⟨rfl, (show ¬ (54 : Nat) = 0 by decide)⟩ (And.intro rfl (And.intro (by decide) (And.intro (by decide) (mc_inl (mc_WP.run (mc_adjs _) 6 (And.intro rfl (And.intro ⟨rfl, (show ¬ (55 : Nat) = 0 by decide)⟩ (And.intro (wl_len rfl (by decide) (by decide)) (And.intro (fun c15 => (mc_WP.run (mc_adjs _) 1 (mc_WP.run (mc_adjs _) 1 ((h.1 c14).1 c15)))) (fun c15 => (mc_WP.run (mc_adjs _) 13 (And.intro ⟨rfl, (show ¬ (55 : Nat) = 0 by decide)⟩ (And.intro rfl (And.intro (wl_st rfl ((h.1 c14).2 c15).1 (show 10 ≤ (55 : Nat) by decide)) (And.intro rfl (And.intro rfl (mc_WP.run (mc_adjs _) 1 ((h.1 c14).2 c15).2)))))))))))))))))))) (fun c14 => (mc_WP.run (mc_adjs _) 14 (And.intro ⟨rfl, (show ¬ (63 : Nat) = 0 by decide)⟩ (And.intro rfl (And.intro ⟨rfl, (show ¬ (54 : Nat) = 0 by decide)⟩ (And.intro rfl (And.intro (by decide) (And.intro (by decide) (mc_inl (mc_WP.run (mc_adjs _) 6 (And.intro rfl (And.intro ⟨rfl, (show ¬ (55 : Nat) = 0 by decide)⟩ (And.intro (wl_len rfl (by decide) (by decide)) (And.intro (fun c16 => (mc_WP.run (mc_adjs _) 1 (mc_WP.run (mc_adjs _) 2 ((h.2 c14).1 c16)))) (fun c16 => (mc_WP.run (mc_adjs _) 13 (And.intro ⟨rfl, (show ¬ (55 : Nat) = 0 by decide)⟩ (And.intro rfl (And.intro (wl_st rfl ((h.2 c14).2 c16).1 (show 10 ≤ (55 : Nat) by decide)) (And.intro rfl (And.intro rfl (mc_WP.run (mc_adjs _) 2 ((h.2 c14).2 c16).2))))))))))))))))))))))))))
set_option maxRecDepth 20000 in
theorem bk_153_40 {x1 : Int32} {x2 : Int32} {x3 : Int32}
    (h : (x2 ≤ x3 →
        (mc_WP (153, 2, [.ref 56, .int (x1 + (20 : Int32)), .int x2, .int x3], [], (I, J, rf_w r, sh_w N, n), (0, 0)) Q)) ∧
        (¬ (x2 ≤ x3) →
        (vp_in x3 64 ∧ ((Int32.ofNat 800) ≤ (I 54 1) →
          (mc_WP (153, 40, [.ref 56, .int x1, .int x2, .int (x3 + (1 : Int32))], [], (I, J, rf_w r, sh_w N, n), (0, 0)) Q)) ∧
          (¬ ((Int32.ofNat 800) ≤ (I 54 1)) →
          (vp_in (I 54 1) 800 ∧ mc_WP (153, 40, [.ref 56, .int x1, .int x2, .int (x3 + (1 : Int32))], [], ((mc_up (mc_up I 55 (I 54 1).toNatClampNeg (I 64 x3.toNatClampNeg)) 54 1 ((I 54 1) + (1 : Int32))), J, rf_w r, sh_w N, n), (0, 0)) Q))))) :
    mc_WP (153, 40, [.ref 56, .int x1, .int x2, .int x3], [], (I, J, rf_w r, sh_w N, n), (0, 0)) Q := by
  exact (mc_WP.run (mc_adjs _) 3 (And.intro (fun c9 => (mc_WP.run (mc_adjs _) 2 (h.1 c9))) (fun c9 => (mc_WP.run (mc_adjs _) 8 (And.intro ⟨rfl, (show ¬ (54 : Nat) = 0 by decide)⟩ (And.intro ⟨rfl, (show ¬ (63 : Nat) = 0 by decide)⟩ (And.intro ⟨rfl, (show ¬ (64 : Nat) = 0 by decide)⟩ (And.intro (wl_ld rfl (h.2 c9).1) (And.intro rfl (And.intro (by decide) (And.intro (by decide) (mc_inl (mc_WP.run (mc_adjs _) 6 (And.intro rfl (And.intro ⟨rfl, (show ¬ (55 : Nat) = 0 by decide)⟩ (And.intro (wl_len rfl (by decide) (by decide)) (And.intro (fun c10 => (mc_WP.run (mc_adjs _) 1 (mc_WP.run (mc_adjs _) 2 ((h.2 c9).2.1 c10)))) (fun c10 => (mc_WP.run (mc_adjs _) 13 (And.intro ⟨rfl, (show ¬ (55 : Nat) = 0 by decide)⟩ (And.intro rfl (And.intro (wl_st rfl ((h.2 c9).2.2 c10).1 (show 10 ≤ (55 : Nat) by decide)) (And.intro rfl (And.intro rfl (mc_WP.run (mc_adjs _) 2 ((h.2 c9).2.2 c10).2)))))))))))))))))))))))))
-- 154 has(I)Z inl<=6
set_option maxRecDepth 20000 in
theorem bk_154_0 {a0 : Nat} {x1 : Int32} (ha0 : is_P a0)
    (h : (x1 < 0 → (Q (.inl (some (.int (0 : Int32)))) (I, J, rf_w r, sh_w N, n))) ∧
        (¬ (x1 < 0) →
        (((I a0 1) ≤ x1 → (Q (.inl (some (.int (0 : Int32)))) (I, J, rf_w r, sh_w N, n))) ∧
          (¬ ((I a0 1) ≤ x1) → (Q (.inl (some (.int (1 : Int32)))) (I, J, rf_w r, sh_w N, n)))))) :
    mc_WP (mc_en 154 [.ref a0, .int x1] (I, J, rf_w r, sh_w N, n)) Q := by
  exact (mc_WP.run (mc_adjs _) 2 (And.intro (fun c7 => (mc_WP.run (mc_adjs _) 2 (And.intro (by decide) (h.1 c7)))) (fun c7 => (mc_WP.run (mc_adjs _) 4 (And.intro (wd_P (r := r) (N := N) ha0).1 (And.intro (fun c8 => (mc_WP.run (mc_adjs _) 2 (And.intro (by decide) ((h.2 c7).1 c8)))) (fun c8 => (mc_WP.run (mc_adjs _) 2 (mc_WP.run (mc_adjs _) 1 (And.intro (by decide) ((h.2 c7).2 c8)))))))))))
-- 155 put(II)V inl<=6
set_option maxRecDepth 20000 in
theorem bk_155_0 {a0 : Nat} {x1 : Int32} {x2 : Int32} (ha0 : is_P a0)
    (h : vp_in x1 16 ∧ Q (.inl none) ((mc_up I (a0 + 1) x1.toNatClampNeg (x2 &&& (Int32.ofNat 16777215))), J, rf_w r, sh_w N, n)) :
    mc_WP (mc_en 155 [.ref a0, .int x1, .int x2] (I, J, rf_w r, sh_w N, n)) Q := by
  exact (by have g1 := h; have e2 : rf_w r a0 0 = (a0 + 1) := (wd_P (r := r) (N := N) ha0).2.1; have s3 : sh_w N (rf_w r a0 0) = (2, 16) := (by rw [e2]; exact (wd_P (r := r) (N := N) ha0).2.2); have ts3 : 10 ≤ rf_w r a0 0 := (by rw [e2]; exact wd_tP ha0 _); (try rw [← e2] at g1); exact (mc_WP.run (mc_adjs _) 8 (And.intro ⟨(wd_P (r := r) (N := N) ha0).1, (wd_Z s3)⟩ (And.intro (wl_st s3 g1.1 ts3) g1.2))))
-- 156 resize(I)V inl<=6
set_option maxRecDepth 20000 in
theorem bk_156_0 {a0 : Nat} {x1 : Int32} (ha0 : is_P a0)
    (h : mc_WP (156, 9, [.ref a0, .int x1, .int (if x1 < (I a0 1) then x1 else (I a0 1))], [], (I, J, rf_w r, sh_w N, n), (0, 0)) Q) :
    mc_WP (mc_en 156 [.ref a0, .int x1] (I, J, rf_w r, sh_w N, n)) Q := by
  exact (mc_WP.run (mc_adjs _) 5 (And.intro (wd_P (r := r) (N := N) ha0).1 h))
set_option maxRecDepth 20000 in
theorem bk_156_9 {a0 : Nat} {x1 : Int32} {x2 : Int32} (ha0 : is_P a0)
    (h : ((16 : Int32) ≤ x2 → (Q (.inl none) ((mc_up I a0 1 x1), J, rf_w r, sh_w N, n))) ∧
        (¬ ((16 : Int32) ≤ x2) →
        (vp_in x2 16 ∧ mc_WP (156, 9, [.ref a0, .int x1, .int (x2 + (1 : Int32))], [], ((mc_up I (a0 + 1) x2.toNatClampNeg (0 : Int32)), J, rf_w r, sh_w N, n), (0, 0)) Q))) :
    mc_WP (156, 9, [.ref a0, .int x1, .int x2], [], (I, J, rf_w r, sh_w N, n), (0, 0)) Q := by
  exact (mc_WP.run (mc_adjs _) 3 (And.intro (fun c6 => (mc_WP.run (mc_adjs _) 4 (And.intro (wd_P (r := r) (N := N) ha0).1 (h.1 c6)))) (fun c6 => (by have g3 := (h.2 c6); have e4 : rf_w r a0 0 = (a0 + 1) := (wd_P (r := r) (N := N) ha0).2.1; have s5 : sh_w N (rf_w r a0 0) = (2, 16) := (by rw [e4]; exact (wd_P (r := r) (N := N) ha0).2.2); have ts5 : 10 ≤ rf_w r a0 0 := (by rw [e4]; exact wd_tP ha0 _); (try rw [← e4] at g3); exact (mc_WP.run (mc_adjs _) 7 (And.intro ⟨(wd_P (r := r) (N := N) ha0).1, (wd_Z s5)⟩ (And.intro (wl_st s5 g3.1 ts5) g3.2)))))))
-- 157 parseInto(LPaletteReel$Reel;)Z inl<=1
set_option maxRecDepth 20000 in
theorem bk_157_0 {a1 : Nat} (ha1 : is_R a1)
    (h : ∃ R : mc_Q, mc_WP (mc_en 158 [.ref 65, .ref a1] ((mc_up (mc_up I 74 1 (0 : Int32)) 74 2 (1 : Int32)), J, rf_w r, sh_w N, n)) R ∧ (∀ v t, R (.inl v) t → mc_WP (157, 12, [.ref 65, .ref a1, .null, .null], v.toList ++ [], t, (0, 0)) Q) ∧ (∀ k t, R (.inr k) t → Q (.inr k) t)) :
    mc_WP (mc_en 157 [.ref 65, .ref a1] (I, J, rf_w r, sh_w N, n)) Q := by
  exact (mc_WP.run (mc_adjs _) 3 (And.intro ⟨rfl, (show ¬ (74 : Nat) = 0 by decide)⟩ (And.intro rfl (And.intro (by decide) (And.intro (by decide) (mc_inl (mc_WP.run (mc_adjs _) 7 (And.intro rfl (And.intro ⟨rfl, (by decide)⟩ (mc_WP.run (mc_adjs _) 3 (And.intro rfl (And.intro (by decide) (And.intro (by decide) h)))))))))))))
set_option maxRecDepth 20000 in
theorem bk_157_12 {a1 : Nat} (ha1 : is_R a1)
    (h : mc_WP (157, 18, [.ref 65, .ref a1, .int (0 : Int32), .null], [], ((mc_up (mc_up (mc_up I 65 5 (0 : Int32)) 65 6 (0 : Int32)) 65 7 (-1 : Int32)), J, rf_w r, sh_w N, n), (0, 0)) Q) :
    mc_WP (157, 12, [.ref 65, .ref a1, .null, .null], [], (I, J, rf_w r, sh_w N, n), (0, 0)) Q := by
  exact (mc_WP.run (mc_adjs _) 2 (And.intro rfl (And.intro (by decide) (And.intro (by decide) (mc_inl (mc_WP.run (mc_adjs _) 10 (And.intro rfl (And.intro rfl (And.intro rfl (mc_WP.run (mc_adjs _) 2 h))))))))))
set_option maxRecDepth 20000 in
theorem bk_157_18 {a1 : Nat} {x2 : Int32} {x3 : Value} (ha1 : is_R a1)
    (h : ((800 : Int32) ≤ x2 → (Q (.inl (some (.int (0 : Int32)))) (I, J, rf_w r, sh_w N, n))) ∧
        (¬ ((800 : Int32) ≤ x2) →
        (((I 74 2) = 0 → (Q (.inl (some (.int (0 : Int32)))) (I, J, rf_w r, sh_w N, n))) ∧
          (¬ ((I 74 2) = 0) →
          (∃ R : mc_Q, mc_WP (mc_en 137 [.ref 74] (I, J, rf_w r, sh_w N, n)) R ∧ (∀ v t, R (.inl v) t → mc_WP (157, 42, [.ref 65, .ref a1, .int x2, x3], v.toList ++ [], t, (0, 0)) Q) ∧ (∀ k t, R (.inr k) t → Q (.inr k) t)))))) :
    mc_WP (157, 18, [.ref 65, .ref a1, .int x2, x3], [], (I, J, rf_w r, sh_w N, n), (0, 0)) Q := by
  exact (mc_WP.run (mc_adjs _) 3 (And.intro (fun c6 => (mc_WP.run (mc_adjs _) 2 (And.intro (by decide) (h.1 c6)))) (fun c6 => (mc_WP.run (mc_adjs _) 4 (And.intro ⟨rfl, (show ¬ (74 : Nat) = 0 by decide)⟩ (And.intro rfl (And.intro (fun c7 => (mc_WP.run (mc_adjs _) 2 (And.intro (by decide) ((h.2 c6).1 c7)))) (fun c7 => (mc_WP.run (mc_adjs _) 3 (And.intro ⟨rfl, (show ¬ (74 : Nat) = 0 by decide)⟩ (And.intro rfl (And.intro (by decide) (And.intro (by decide) ((h.2 c6).2 c7))))))))))))))
set_option maxRecDepth 20000 in
theorem bk_157_42 {a1 : Nat} {x2 : Int32} {x3 : Value} {y0 : Int32} (ha1 : is_R a1)
    (h : (¬ y0 = (59 : Int32) →
        ((¬ y0 = (33 : Int32) →
          ((¬ y0 = (254 : Int32) →
            ((¬ y0 = (44 : Int32) →
              (mc_WP (157, 18, [.ref 65, .ref a1, .int (x2 + (1 : Int32)), .int y0], [], ((mc_up I 74 2 (0 : Int32)), J, rf_w r, sh_w N, n), (0, 0)) Q)) ∧
              (¬ (¬ y0 = (44 : Int32)) →
              (((4 : Int32) ≤ (I a1 4) →
                (mc_WP (157, 18, [.ref 65, .ref a1, .int (x2 + (1 : Int32)), .int y0], [], ((mc_up I 74 2 (0 : Int32)), J, rf_w r, sh_w N, n), (0, 0)) Q)) ∧
                (¬ ((4 : Int32) ≤ (I a1 4)) →
                (∃ R : mc_Q, mc_WP (mc_en 162 [.ref 65, .ref a1] (I, J, rf_w r, sh_w N, n)) R ∧ (∀ v t, R (.inl v) t → mc_WP (157, 111, [.ref 65, .ref a1, .int x2, .int y0], v.toList ++ [], t, (0, 0)) Q) ∧ (∀ k t, R (.inr k) t → Q (.inr k) t))))))) ∧
            (¬ (¬ y0 = (254 : Int32)) →
            (∃ R : mc_Q, mc_WP (mc_en 139 [.ref 74, .ref 66] (I, J, rf_w r, sh_w N, n)) R ∧ (∀ v t, R (.inl v) t → mc_WP (157, 88, [.ref 65, .ref a1, .int x2, .int y0], v.toList ++ [], t, (0, 0)) Q) ∧ (∀ k t, R (.inr k) t → Q (.inr k) t))))) ∧
          (¬ (¬ y0 = (33 : Int32)) →
          (∃ R : mc_Q, mc_WP (mc_en 161 [.ref 65] (I, J, rf_w r, sh_w N, n)) R ∧ (∀ v t, R (.inl v) t → mc_WP (157, 67, [.ref 65, .ref a1, .int x2, .int y0], v.toList ++ [], t, (0, 0)) Q) ∧ (∀ k t, R (.inr k) t → Q (.inr k) t))))) ∧
        (¬ (¬ y0 = (59 : Int32)) →
        (∃ R : mc_Q, mc_WP (mc_en 136 [.ref 74] (I, J, rf_w r, sh_w N, n)) R ∧ (∀ v t, R (.inl v) t → mc_WP (157, 56, [.ref 65, .ref a1, .int x2, .int y0], v.toList ++ [], t, (0, 0)) Q) ∧ (∀ k t, R (.inr k) t → Q (.inr k) t)))) :
    mc_WP (157, 42, [.ref 65, .ref a1, .int x2, x3], [.int y0], (I, J, rf_w r, sh_w N, n), (0, 0)) Q := by
  exact (mc_WP.run (mc_adjs _) 4 (And.intro (fun c16 => (mc_WP.run (mc_adjs _) 3 (And.intro (fun c17 => (mc_WP.run (mc_adjs _) 3 (And.intro (fun c18 => (mc_WP.run (mc_adjs _) 3 (And.intro (fun c19 => (mc_WP.run (mc_adjs _) 3 (And.intro ⟨rfl, (show ¬ (74 : Nat) = 0 by decide)⟩ (And.intro rfl (And.intro (by decide) (And.intro (by decide) (mc_inl (mc_WP.run (mc_adjs _) 4 (And.intro ⟨rfl, (by decide)⟩ (mc_WP.run (mc_adjs _) 2 ((((h.1 c16).1 c17).1 c18).1 c19))))))))))) (fun c19 => (mc_WP.run (mc_adjs _) 4 (And.intro (wd_R (r := r) (N := N) ha1).1 (And.intro (fun c20 => (mc_WP.run (mc_adjs _) 3 (And.intro ⟨rfl, (show ¬ (74 : Nat) = 0 by decide)⟩ (And.intro rfl (And.intro (by decide) (And.intro (by decide) (mc_inl (mc_WP.run (mc_adjs _) 4 (And.intro ⟨rfl, (by decide)⟩ (mc_WP.run (mc_adjs _) 2 (((((h.1 c16).1 c17).1 c18).2 c19).1 c20))))))))))) (fun c20 => (mc_WP.run (mc_adjs _) 3 (And.intro rfl (And.intro (by decide) (And.intro (by decide) (((((h.1 c16).1 c17).1 c18).2 c19).2 c20))))))))))))) (fun c18 => (mc_WP.run (mc_adjs _) 5 (And.intro ⟨rfl, (show ¬ (74 : Nat) = 0 by decide)⟩ (And.intro ⟨rfl, (show ¬ (66 : Nat) = 0 by decide)⟩ (And.intro rfl (And.intro (by decide) (And.intro (by decide) (((h.1 c16).1 c17).2 c18))))))))))) (fun c17 => (mc_WP.run (mc_adjs _) 2 (And.intro rfl (And.intro (by decide) (And.intro (by decide) ((h.1 c16).2 c17))))))))) (fun c16 => (mc_WP.run (mc_adjs _) 3 (And.intro ⟨rfl, (show ¬ (74 : Nat) = 0 by decide)⟩ (And.intro rfl (And.intro (by decide) (And.intro (by decide) (h.2 c16)))))))))
set_option maxRecDepth 20000 in
theorem bk_157_56 {a1 : Nat} {x2 : Int32} {x3 : Int32} {y0 : Int32} (ha1 : is_R a1)
    (h : (y0 = 0 ∨ y0 = 1) ∧ Q (.inl (some (.int y0))) (I, J, rf_w r, sh_w N, n)) :
    mc_WP (157, 56, [.ref 65, .ref a1, .int x2, .int x3], [.int y0], (I, J, rf_w r, sh_w N, n), (0, 0)) Q := by
  exact (mc_WP.run (mc_adjs _) 1 h)
set_option maxRecDepth 20000 in
theorem bk_157_67 {a1 : Nat} {x2 : Int32} {x3 : Int32} (ha1 : is_R a1)
    (h : mc_WP (157, 18, [.ref 65, .ref a1, .int (x2 + (1 : Int32)), .int x3], [], (I, J, rf_w r, sh_w N, n), (0, 0)) Q) :
    mc_WP (157, 67, [.ref 65, .ref a1, .int x2, .int x3], [], (I, J, rf_w r, sh_w N, n), (0, 0)) Q := by
  exact (mc_WP.run (mc_adjs _) 1 (mc_WP.run (mc_adjs _) 2 h))
set_option maxRecDepth 20000 in
theorem bk_157_88 {a1 : Nat} {x2 : Int32} {x3 : Int32} {y0 : Int32} (ha1 : is_R a1)
    (h : mc_WP (157, 18, [.ref 65, .ref a1, .int (x2 + (1 : Int32)), .int x3], [], (I, J, rf_w r, sh_w N, n), (0, 0)) Q) :
    mc_WP (157, 88, [.ref 65, .ref a1, .int x2, .int x3], [.int y0], (I, J, rf_w r, sh_w N, n), (0, 0)) Q := by
  exact (mc_WP.run (mc_adjs _) 2 (mc_WP.run (mc_adjs _) 2 h))
set_option maxRecDepth 20000 in
theorem bk_157_111 {a1 : Nat} {x2 : Int32} {x3 : Int32} (ha1 : is_R a1)
    (h : mc_WP (157, 18, [.ref 65, .ref a1, .int (x2 + (1 : Int32)), .int x3], [], ((mc_up (mc_up (mc_up I 65 5 (0 : Int32)) 65 6 (0 : Int32)) 65 7 (-1 : Int32)), J, rf_w r, sh_w N, n), (0, 0)) Q) :
    mc_WP (157, 111, [.ref 65, .ref a1, .int x2, .int x3], [], (I, J, rf_w r, sh_w N, n), (0, 0)) Q := by
  exact (mc_WP.run (mc_adjs _) 2 (And.intro rfl (And.intro (by decide) (And.intro (by decide) (mc_inl (mc_WP.run (mc_adjs _) 10 (And.intro rfl (And.intro rfl (And.intro rfl (mc_WP.run (mc_adjs _) 1 (mc_WP.run (mc_adjs _) 2 h)))))))))))
-- 158 takeHead(LPaletteReel$Reel;)V inl<=1
set_option maxRecDepth 20000 in
theorem bk_158_0 {a1 : Nat} (ha1 : is_R a1)
    (h : ∃ R : mc_Q, mc_WP (mc_en 138 [.ref 74, .int (80 : Int32), .int (80 : Int32)] (I, J, rf_w r, sh_w N, n)) R ∧ (∀ v t, R (.inl v) t → mc_WP (158, 11, [.ref 65, .ref a1, .null, .null], v.toList ++ [], t, (0, 0)) Q) ∧ (∀ k t, R (.inr k) t → Q (.inr k) t)) :
    mc_WP (mc_en 158 [.ref 65, .ref a1] (I, J, rf_w r, sh_w N, n)) Q := by
  exact (mc_WP.run (mc_adjs _) 5 (And.intro ⟨rfl, (show ¬ (74 : Nat) = 0 by decide)⟩ (And.intro rfl (And.intro (by decide) (And.intro (by decide) h)))))
set_option maxRecDepth 20000 in
theorem bk_158_11 {a1 : Nat} {y0 : Int32} (ha1 : is_R a1)
    (h : ∃ R : mc_Q, mc_WP (mc_en 138 [.ref 74, .int (49 : Int32), .int (49 : Int32)] (I, J, rf_w r, sh_w N, n)) R ∧ (∀ v t, R (.inl v) t → mc_WP (158, 23, [.ref 65, .ref a1, .null, .null], v.toList ++ [], t, (0, 0)) Q) ∧ (∀ k t, R (.inr k) t → Q (.inr k) t)) :
    mc_WP (158, 11, [.ref 65, .ref a1, .null, .null], [.int y0], (I, J, rf_w r, sh_w N, n), (0, 0)) Q := by
  exact (mc_WP.run (mc_adjs _) 6 (And.intro ⟨rfl, (show ¬ (74 : Nat) = 0 by decide)⟩ (And.intro rfl (And.intro (by decide) (And.intro (by decide) h)))))
set_option maxRecDepth 20000 in
theorem bk_158_23 {a1 : Nat} {y0 : Int32} (ha1 : is_R a1)
    (h : ∃ R : mc_Q, mc_WP (mc_en 138 [.ref 74, .int (1 : Int32), .int (8 : Int32)] (I, J, rf_w r, sh_w N, n)) R ∧ (∀ v t, R (.inl v) t → mc_WP (158, 34, [.ref 65, .ref a1, .null, .null], v.toList ++ [], t, (0, 0)) Q) ∧ (∀ k t, R (.inr k) t → Q (.inr k) t)) :
    mc_WP (158, 23, [.ref 65, .ref a1, .null, .null], [.int y0], (I, J, rf_w r, sh_w N, n), (0, 0)) Q := by
  exact (mc_WP.run (mc_adjs _) 6 (And.intro ⟨rfl, (show ¬ (74 : Nat) = 0 by decide)⟩ (And.intro rfl (And.intro (by decide) (And.intro (by decide) h)))))
set_option maxRecDepth 20000 in
theorem bk_158_34 {a1 : Nat} {y0 : Int32} (ha1 : is_R a1)
    (h : ∃ R : mc_Q, mc_WP (mc_en 138 [.ref 74, .int (1 : Int32), .int (8 : Int32)] (I, J, rf_w r, sh_w N, n)) R ∧ (∀ v t, R (.inl v) t → mc_WP (158, 45, [.ref 65, .ref a1, .int y0, .null], v.toList ++ [], t, (0, 0)) Q) ∧ (∀ k t, R (.inr k) t → Q (.inr k) t)) :
    mc_WP (158, 34, [.ref 65, .ref a1, .null, .null], [.int y0], (I, J, rf_w r, sh_w N, n), (0, 0)) Q := by
  exact (mc_WP.run (mc_adjs _) 6 (And.intro ⟨rfl, (show ¬ (74 : Nat) = 0 by decide)⟩ (And.intro rfl (And.intro (by decide) (And.intro (by decide) h)))))
set_option maxRecDepth 20000 in
theorem bk_158_45 {a1 : Nat} {x2 : Int32} {y0 : Int32} (ha1 : is_R a1)
    (h : ∃ R : mc_Q, mc_WP (mc_en 138 [.ref 74, .int (0 : Int32), .int (3 : Int32)] (I, J, rf_w r, sh_w N, n)) R ∧ (∀ v t, R (.inl v) t → mc_WP (158, 59, [.ref 65, .ref a1, .int x2, .int y0], v.toList ++ [.int (2 : Int32), .int y0, .int x2, .ref a1], t, (0, 0)) Q) ∧ (∀ k t, R (.inr k) t → Q (.inr k) t)) :
    mc_WP (158, 45, [.ref 65, .ref a1, .int x2, .null], [.int y0], (I, J, rf_w r, sh_w N, n), (0, 0)) Q := by
  exact (mc_WP.run (mc_adjs _) 10 (And.intro ⟨rfl, (show ¬ (74 : Nat) = 0 by decide)⟩ (And.intro rfl (And.intro (by decide) (And.intro (by decide) h)))))
set_option maxRecDepth 20000 in
theorem bk_158_59 {a1 : Nat} {x2 : Int32} {x3 : Int32} {b0 : Nat} {y1 : Int32} {y2 : Int32} {y3 : Int32} {y4 : Int32} (ha1 : is_R a1) (hb0 : is_R b0)
    (h : ∃ R : mc_Q, mc_WP (mc_en 189 [.ref b0, .int y1, .int y2, .int (y3 <<< (y4 &&& 31))] (I, J, rf_w r, sh_w N, n)) R ∧ (∀ v t, R (.inl v) t → mc_WP (158, 63, [.ref 65, .ref a1, .int x2, .int x3], v.toList ++ [], t, (0, 0)) Q) ∧ (∀ k t, R (.inr k) t → Q (.inr k) t)) :
    mc_WP (158, 59, [.ref 65, .ref a1, .int x2, .int x3], [.int y4, .int y3, .int y2, .int y1, .ref b0], (I, J, rf_w r, sh_w N, n), (0, 0)) Q := by
  exact (mc_WP.run (mc_adjs _) 2 (And.intro (wd_R (r := r) (N := N) hb0).1 (And.intro (by decide) (And.intro (by decide) h))))
set_option maxRecDepth 20000 in
theorem bk_158_63 {a1 : Nat} {x2 : Int32} {x3 : Int32} (ha1 : is_R a1)
    (h : ∃ R : mc_Q, mc_WP (mc_en 159 [.ref 65, .ref (a1 + 1)] (I, J, rf_w r, sh_w N, n)) R ∧ (∀ v t, R (.inl v) t → mc_WP (158, 71, [.ref 65, .ref a1, .int x2, .int x3], v.toList ++ [], t, (0, 0)) Q) ∧ (∀ k t, R (.inr k) t → Q (.inr k) t)) :
    mc_WP (158, 63, [.ref 65, .ref a1, .int x2, .int x3], [], (I, J, rf_w r, sh_w N, n), (0, 0)) Q := by
  exact (by have g1 := h; have e2 : rf_w r a1 0 = (a1 + 1) := (wd_R (r := r) (N := N) ha1).2.1; have s3 : sh_w N (rf_w r a1 0) = (1, 6) := (by rw [e2]; exact (wd_R (r := r) (N := N) ha1).2.2.2.1); have k4 : is_P (rf_w r a1 0) := (by rw [e2]; exact (wd_R (r := r) (N := N) ha1).2.2.2.2.1); (try rw [← e2] at g1); exact (mc_WP.run (mc_adjs _) 4 (And.intro ⟨(wd_R (r := r) (N := N) ha1).1, (wd_Z s3)⟩ (And.intro rfl (And.intro (by decide) (And.intro (by decide) g1))))))
set_option maxRecDepth 20000 in
theorem bk_158_71 {a1 : Nat} {x2 : Int32} {x3 : Int32} (ha1 : is_R a1)
    (h : Q (.inl none) (I, J, rf_w r, sh_w N, n)) :
    mc_WP (158, 71, [.ref 65, .ref a1, .int x2, .int x3], [], (I, J, rf_w r, sh_w N, n), (0, 0)) Q := by
  exact (mc_WP.run (mc_adjs _) 1 h)
-- 159 takeColours(LPaletteReel$Palette;)V inl<=6
set_option maxRecDepth 20000 in
theorem bk_159_0 {a1 : Nat} (ha1 : is_P a1)
    (h : mc_WP (159, 2, [.ref 65, .ref a1, .int (0 : Int32), .null, .null], [], (I, J, rf_w r, sh_w N, n), (0, 0)) Q) :
    mc_WP (mc_en 159 [.ref 65, .ref a1] (I, J, rf_w r, sh_w N, n)) Q := by
  exact (mc_WP.run (mc_adjs _) 2 h)
set_option maxRecDepth 20000 in
theorem bk_159_2 {a1 : Nat} {x2 : Int32} {x3 : Value} {x4 : Value} (ha1 : is_P a1)
    (h : ((I a1 1) ≤ x2 → (Q (.inl none) (I, J, rf_w r, sh_w N, n))) ∧
        (¬ ((I a1 1) ≤ x2) →
        (mc_WP (159, 15, [.ref 65, .ref a1, .int x2, .int (0 : Int32), .int (0 : Int32)], [], (I, J, rf_w r, sh_w N, n), (0, 0)) Q))) :
    mc_WP (159, 2, [.ref 65, .ref a1, .int x2, x3, x4], [], (I, J, rf_w r, sh_w N, n), (0, 0)) Q := by
  exact (mc_WP.run (mc_adjs _) 4 (And.intro (wd_P (r := r) (N := N) ha1).1 (And.intro (fun c4 => (mc_WP.run (mc_adjs _) 1 (h.1 c4))) (fun c4 => (mc_WP.run (mc_adjs _) 4 (h.2 c4))))))
set_option maxRecDepth 20000 in
theorem bk_159_15 {a1 : Nat} {x2 : Int32} {x3 : Int32} {x4 : Int32} (ha1 : is_P a1)
    (h : ((3 : Int32) ≤ x4 →
        (vp_in x2 16 ∧ mc_WP (159, 2, [.ref 65, .ref a1, .int (x2 + (1 : Int32)), .int x3, .int x4], [], ((mc_up I (a1 + 1) x2.toNatClampNeg (x3 &&& (Int32.ofNat 16777215))), J, rf_w r, sh_w N, n), (0, 0)) Q)) ∧
        (¬ ((3 : Int32) ≤ x4) →
        (((I 74 1) < (I 54 1) →
          (vp_in (I 74 1) 800 ∧ mc_WP (159, 15, [.ref 65, .ref a1, .int x2, .int ((x3 <<< ((8 : Int32) &&& 31)) ||| (I 55 (I 74 1).toNatClampNeg)), .int (x4 + (1 : Int32))], [], ((mc_up I 74 1 ((I 74 1) + (1 : Int32))), J, rf_w r, sh_w N, n), (0, 0)) Q)) ∧
          (¬ ((I 74 1) < (I 54 1)) →
          (mc_WP (159, 15, [.ref 65, .ref a1, .int x2, .int ((x3 <<< ((8 : Int32) &&& 31)) ||| (0 : Int32)), .int (x4 + (1 : Int32))], [], ((mc_up I 74 2 (0 : Int32)), J, rf_w r, sh_w N, n), (0, 0)) Q))))) :
    mc_WP (159, 15, [.ref 65, .ref a1, .int x2, .int x3, .int x4], [], (I, J, rf_w r, sh_w N, n), (0, 0)) Q := by
  exact (mc_WP.run (mc_adjs _) 3 (And.intro (fun c13 => (mc_WP.run (mc_adjs _) 4 (And.intro (wd_P (r := r) (N := N) ha1).1 (And.intro (by decide) (And.intro (by decide) (mc_inl (by have g3 := (h.1 c13); have e4 : rf_w r a1 0 = (a1 + 1) := (wd_P (r := r) (N := N) ha1).2.1; have s5 : sh_w N (rf_w r a1 0) = (2, 16) := (by rw [e4]; exact (wd_P (r := r) (N := N) ha1).2.2); have ts5 : 10 ≤ rf_w r a1 0 := (by rw [e4]; exact wd_tP ha1 _); (try rw [← e4] at g3); exact (mc_WP.run (mc_adjs _) 8 (And.intro ⟨(wd_P (r := r) (N := N) ha1).1, (wd_Z s5)⟩ (And.intro (wl_st s5 g3.1 ts5) (mc_WP.run (mc_adjs _) 2 g3.2))))))))))) (fun c13 => (mc_WP.run (mc_adjs _) 6 (And.intro ⟨rfl, (show ¬ (74 : Nat) = 0 by decide)⟩ (And.intro rfl (And.intro (by decide) (And.intro (by decide) (mc_inl (mc_WP.run (mc_adjs _) 6 (And.intro rfl (And.intro ⟨rfl, (show ¬ (54 : Nat) = 0 by decide)⟩ (And.intro rfl (And.intro (fun c14 => (mc_WP.run (mc_adjs _) 15 (And.intro ⟨rfl, (show ¬ (54 : Nat) = 0 by decide)⟩ (And.intro ⟨rfl, (show ¬ (55 : Nat) = 0 by decide)⟩ (And.intro rfl (And.intro (wl_ld rfl ((h.2 c13).1 c14).1) (And.intro rfl (And.intro rfl (mc_WP.run (mc_adjs _) 4 ((h.2 c13).1 c14).2))))))))) (fun c14 => (mc_WP.run (mc_adjs _) 5 (And.intro ⟨rfl, (by decide)⟩ (mc_WP.run (mc_adjs _) 4 ((h.2 c13).2 c14)))))))))))))))))))
-- 160 forgetSettings()V inl<=6
set_option maxRecDepth 20000 in
theorem bk_160_0
    (h : Q (.inl none) ((mc_up (mc_up (mc_up I 65 5 (0 : Int32)) 65 6 (0 : Int32)) 65 7 (-1 : Int32)), J, rf_w r, sh_w N, n)) :
    mc_WP (mc_en 160 [.ref 65] (I, J, rf_w r, sh_w N, n)) Q := by
  exact (mc_WP.run (mc_adjs _) 10 (And.intro rfl (And.intro rfl (And.intro rfl h))))
-- 161 takeSettings()V inl<=1
set_option maxRecDepth 20000 in
theorem bk_161_0
    (h : ∃ R : mc_Q, mc_WP (mc_en 137 [.ref 74] (I, J, rf_w r, sh_w N, n)) R ∧ (∀ v t, R (.inl v) t → mc_WP (161, 7, [.ref 65, .null, .null, .null], v.toList ++ [], t, (0, 0)) Q) ∧ (∀ k t, R (.inr k) t → Q (.inr k) t)) :
    mc_WP (mc_en 161 [.ref 65] (I, J, rf_w r, sh_w N, n)) Q := by
  exact (mc_WP.run (mc_adjs _) 3 (And.intro ⟨rfl, (show ¬ (74 : Nat) = 0 by decide)⟩ (And.intro rfl (And.intro (by decide) (And.intro (by decide) h)))))
set_option maxRecDepth 20000 in
theorem bk_161_7 {y0 : Int32}
    (h : (y0 < (16 : Int32) →
        ((y0 ≤ (3 : Int32) →
          (∃ R : mc_Q, mc_WP (mc_en 137 [.ref 74] ((mc_up I 65 5 y0), J, rf_w r, sh_w N, n)) R ∧ (∀ v t, R (.inl v) t → mc_WP (161, 59, [.ref 65, .int y0, .int (0 : Int32), .null], v.toList ++ [.ref 65], t, (0, 0)) Q) ∧ (∀ k t, R (.inr k) t → Q (.inr k) t))) ∧
          (¬ (y0 ≤ (3 : Int32)) →
          (∃ R : mc_Q, mc_WP (mc_en 137 [.ref 74] ((mc_up (mc_up I 65 5 y0) 74 2 (0 : Int32)), J, rf_w r, sh_w N, n)) R ∧ (∀ v t, R (.inl v) t → mc_WP (161, 59, [.ref 65, .int y0, .int (0 : Int32), .null], v.toList ++ [.ref 65], t, (0, 0)) Q) ∧ (∀ k t, R (.inr k) t → Q (.inr k) t))))) ∧
        (¬ (y0 < (16 : Int32)) →
        (((y0 - (16 : Int32)) ≤ (3 : Int32) →
          (∃ R : mc_Q, mc_WP (mc_en 137 [.ref 74] ((mc_up I 65 5 (y0 - (16 : Int32))), J, rf_w r, sh_w N, n)) R ∧ (∀ v t, R (.inl v) t → mc_WP (161, 59, [.ref 65, .int y0, .int (1 : Int32), .null], v.toList ++ [.ref 65], t, (0, 0)) Q) ∧ (∀ k t, R (.inr k) t → Q (.inr k) t))) ∧
          (¬ ((y0 - (16 : Int32)) ≤ (3 : Int32)) →
          (∃ R : mc_Q, mc_WP (mc_en 137 [.ref 74] ((mc_up (mc_up I 65 5 (y0 - (16 : Int32))) 74 2 (0 : Int32)), J, rf_w r, sh_w N, n)) R ∧ (∀ v t, R (.inl v) t → mc_WP (161, 59, [.ref 65, .int y0, .int (1 : Int32), .null], v.toList ++ [.ref 65], t, (0, 0)) Q) ∧ (∀ k t, R (.inr k) t → Q (.inr k) t)))))) :
    mc_WP (161, 7, [.ref 65, .null, .null, .null], [.int y0], (I, J, rf_w r, sh_w N, n), (0, 0)) Q := by
  exact (mc_WP.run (mc_adjs _) 4 (And.intro (fun c16 => (mc_WP.run (mc_adjs _) 5 (And.intro (fun _ => (mc_WP.run (mc_adjs _) 6 (And.intro rfl (And.intro rfl (And.intro (fun c17 => (mc_WP.run (mc_adjs _) 4 (And.intro ⟨rfl, (show ¬ (74 : Nat) = 0 by decide)⟩ (And.intro rfl (And.intro (by decide) (And.intro (by decide) ((h.1 c16).1 c17))))))) (fun c17 => (mc_WP.run (mc_adjs _) 3 (And.intro ⟨rfl, (show ¬ (74 : Nat) = 0 by decide)⟩ (And.intro rfl (And.intro (by decide) (And.intro (by decide) (mc_inl (mc_WP.run (mc_adjs _) 4 (And.intro ⟨rfl, (by decide)⟩ (mc_WP.run (mc_adjs _) 4 (And.intro ⟨rfl, (show ¬ (74 : Nat) = 0 by decide)⟩ (And.intro rfl (And.intro (by decide) (And.intro (by decide) ((h.1 c16).2 c17)))))))))))))))))))) (fun c => absurd (show (0 : Int32) = 0 by decide) c)))) (fun c16 => (mc_WP.run (mc_adjs _) 2 (mc_WP.run (mc_adjs _) 4 (And.intro (fun c => absurd c (show ¬ ((1 : Int32) = 0) by decide)) (fun _ => (mc_WP.run (mc_adjs _) 4 (mc_WP.run (mc_adjs _) 5 (And.intro rfl (And.intro rfl (And.intro (fun c18 => (mc_WP.run (mc_adjs _) 4 (And.intro ⟨rfl, (show ¬ (74 : Nat) = 0 by decide)⟩ (And.intro rfl (And.intro (by decide) (And.intro (by decide) ((h.2 c16).1 c18))))))) (fun c18 => (mc_WP.run (mc_adjs _) 3 (And.intro ⟨rfl, (show ¬ (74 : Nat) = 0 by decide)⟩ (And.intro rfl (And.intro (by decide) (And.intro (by decide) (mc_inl (mc_WP.run (mc_adjs _) 4 (And.intro ⟨rfl, (by decide)⟩ (mc_WP.run (mc_adjs _) 4 (And.intro ⟨rfl, (show ¬ (74 : Nat) = 0 by decide)⟩ (And.intro rfl (And.intro (by decide) (And.intro (by decide) ((h.2 c16).2 c18)))))))))))))))))))))))))))
set_option maxRecDepth 20000 in
theorem bk_161_59 {x1 : Int32} {x2 : Int32} {y1 : Int32}
    (h : ∃ R : mc_Q, mc_WP (mc_en 137 [.ref 74] ((mc_up I 65 6 y1), J, rf_w r, sh_w N, n)) R ∧ (∀ v t, R (.inl v) t → mc_WP (161, 69, [.ref 65, .int x1, .int x2, .null], v.toList ++ [], t, (0, 0)) Q) ∧ (∀ k t, R (.inr k) t → Q (.inr k) t)) :
    mc_WP (161, 59, [.ref 65, .int x1, .int x2, .null], [.int y1, .ref 65], (I, J, rf_w r, sh_w N, n), (0, 0)) Q := by
  exact (mc_WP.run (mc_adjs _) 4 (And.intro rfl (And.intro ⟨rfl, (show ¬ (74 : Nat) = 0 by decide)⟩ (And.intro rfl (And.intro (by decide) (And.intro (by decide) h))))))
set_option maxRecDepth 20000 in
theorem bk_161_69 {x1 : Int32} {x2 : Int32} {y0 : Int32}
    (h : (x2 = 0 →
        (Q (.inl none) ((mc_up I 65 7 (-1 : Int32)), J, rf_w r, sh_w N, n))) ∧
        (¬ (x2 = 0) → (Q (.inl none) ((mc_up I 65 7 y0), J, rf_w r, sh_w N, n)))) :
    mc_WP (161, 69, [.ref 65, .int x1, .int x2, .null], [.int y0], (I, J, rf_w r, sh_w N, n), (0, 0)) Q := by
  exact (mc_WP.run (mc_adjs _) 4 (And.intro (fun c5 => (mc_WP.run (mc_adjs _) 3 (And.intro rfl (h.1 c5)))) (fun c5 => (mc_WP.run (mc_adjs _) 2 (mc_WP.run (mc_adjs _) 2 (And.intro rfl (h.2 c5)))))))
-- 162 takeFrame(LPaletteReel$Reel;)V inl<=1
set_option maxRecDepth 20000 in
theorem bk_162_0 {a1 : Nat} (ha1 : is_R a1)
    (h : ∃ R : mc_Q, mc_WP (mc_en 163 [.ref 65, .ref a1] (I, J, rf_w r, sh_w N, n)) R ∧ (∀ v t, R (.inl v) t → mc_WP (162, 5, [.ref 65, .ref a1, .null, .null, .null, .null], v.toList ++ [], t, (0, 0)) Q) ∧ (∀ k t, R (.inr k) t → Q (.inr k) t)) :
    mc_WP (mc_en 162 [.ref 65, .ref a1] (I, J, rf_w r, sh_w N, n)) Q := by
  exact (mc_WP.run (mc_adjs _) 3 (And.intro rfl (And.intro (by decide) (And.intro (by decide) h))))
set_option maxRecDepth 20000 in
theorem bk_162_5 {a1 : Nat} {b0 : Nat} (ha1 : is_R a1) (hb0 : is_F b0)
    (h : ∃ R : mc_Q, mc_WP (mc_en 164 [.ref 65, .ref b0] (I, J, rf_w r, sh_w N, n)) R ∧ (∀ v t, R (.inl v) t → mc_WP (162, 11, [.ref 65, .ref a1, .ref b0, .null, .null, .null], v.toList ++ [], t, (0, 0)) Q) ∧ (∀ k t, R (.inr k) t → Q (.inr k) t)) :
    mc_WP (162, 5, [.ref 65, .ref a1, .null, .null, .null, .null], [.ref b0], (I, J, rf_w r, sh_w N, n), (0, 0)) Q := by
  exact (mc_WP.run (mc_adjs _) 4 (And.intro rfl (And.intro (by decide) (And.intro (by decide) h))))
set_option maxRecDepth 20000 in
theorem bk_162_11 {a1 : Nat} {a2 : Nat} (ha1 : is_R a1) (ha2 : is_F a2)
    (h : ∃ R : mc_Q, mc_WP (mc_en 159 [.ref 65, .ref (a2 + 2)] (I, J, rf_w r, sh_w N, n)) R ∧ (∀ v t, R (.inl v) t → mc_WP (162, 19, [.ref 65, .ref a1, .ref a2, .null, .null, .null], v.toList ++ [], t, (0, 0)) Q) ∧ (∀ k t, R (.inr k) t → Q (.inr k) t)) :
    mc_WP (162, 11, [.ref 65, .ref a1, .ref a2, .null, .null, .null], [], (I, J, rf_w r, sh_w N, n), (0, 0)) Q := by
  exact (by have g1 := h; have e2 : rf_w r a2 1 = (a2 + 2) := (wd_F (r := r) (N := N) ha2).2.2.1; have s3 : sh_w N (rf_w r a2 1) = (1, 6) := (by rw [e2]; exact (wd_F (r := r) (N := N) ha2).2.2.2.2.1); have k4 : is_P (rf_w r a2 1) := (by rw [e2]; exact (wd_F (r := r) (N := N) ha2).2.2.2.2.2); (try rw [← e2] at g1); exact (mc_WP.run (mc_adjs _) 4 (And.intro ⟨(wd_F (r := r) (N := N) ha2).1, (wd_Z s3)⟩ (And.intro rfl (And.intro (by decide) (And.intro (by decide) g1))))))
set_option maxRecDepth 20000 in
theorem bk_162_19 {a1 : Nat} {a2 : Nat} (ha1 : is_R a1) (ha2 : is_F a2)
    (h : ∃ R : mc_Q, mc_WP (mc_en 138 [.ref 74, .int (2 : Int32), .int (4 : Int32)] (I, J, rf_w r, sh_w N, n)) R ∧ (∀ v t, R (.inl v) t → mc_WP (162, 32, [.ref 65, .ref a1, .ref a2, .null, .null, .null], v.toList ++ [.ref 68], t, (0, 0)) Q) ∧ (∀ k t, R (.inr k) t → Q (.inr k) t)) :
    mc_WP (162, 19, [.ref 65, .ref a1, .ref a2, .null, .null, .null], [], (I, J, rf_w r, sh_w N, n), (0, 0)) Q := by
  exact (mc_WP.run (mc_adjs _) 7 (And.intro ⟨rfl, (show ¬ (68 : Nat) = 0 by decide)⟩ (And.intro ⟨rfl, (show ¬ (74 : Nat) = 0 by decide)⟩ (And.intro rfl (And.intro (by decide) (And.intro (by decide) h))))))
set_option maxRecDepth 20000 in
theorem bk_162_32 {a1 : Nat} {a2 : Nat} {b0 : Nat} {y1 : Int32} (ha1 : is_R a1) (ha2 : is_F a2) (hb0 : is_G b0)
    (h : ∃ R : mc_Q, mc_WP (mc_en 195 [.ref b0, .int y1] (I, J, rf_w r, sh_w N, n)) R ∧ (∀ v t, R (.inl v) t → mc_WP (162, 35, [.ref 65, .ref a1, .ref a2, .null, .null, .null], v.toList ++ [], t, (0, 0)) Q) ∧ (∀ k t, R (.inr k) t → Q (.inr k) t)) :
    mc_WP (162, 32, [.ref 65, .ref a1, .ref a2, .null, .null, .null], [.int y1, .ref b0], (I, J, rf_w r, sh_w N, n), (0, 0)) Q := by
  exact (mc_WP.run (mc_adjs _) 1 (And.intro (wd_G (r := r) (N := N) hb0).1 (And.intro (by decide) (And.intro (by decide) h))))
set_option maxRecDepth 20000 in
theorem bk_162_35 {a1 : Nat} {a2 : Nat} (ha1 : is_R a1) (ha2 : is_F a2)
    (h : ∃ R : mc_Q, mc_WP (mc_en 139 [.ref 74, .ref 66] (I, J, rf_w r, sh_w N, n)) R ∧ (∀ v t, R (.inl v) t → mc_WP (162, 46, [.ref 65, .ref a1, .ref a2, .null, .null, .null], v.toList ++ [], t, (0, 0)) Q) ∧ (∀ k t, R (.inr k) t → Q (.inr k) t)) :
    mc_WP (162, 35, [.ref 65, .ref a1, .ref a2, .null, .null, .null], [], (I, J, rf_w r, sh_w N, n), (0, 0)) Q := by
  exact (mc_WP.run (mc_adjs _) 5 (And.intro ⟨rfl, (show ¬ (74 : Nat) = 0 by decide)⟩ (And.intro ⟨rfl, (show ¬ (66 : Nat) = 0 by decide)⟩ (And.intro rfl (And.intro (by decide) (And.intro (by decide) h))))))
set_option maxRecDepth 20000 in
theorem bk_162_46 {a1 : Nat} {a2 : Nat} {y0 : Int32} (ha1 : is_R a1) (ha2 : is_F a2)
    (h : ∃ R : mc_Q, mc_WP (mc_en 166 [.ref 65] ((mc_up I 65 4 (0 : Int32)), J, rf_w r, sh_w N, n)) R ∧ (∀ v t, R (.inl v) t → mc_WP (162, 56, [.ref 65, .ref a1, .ref a2, .int y0, .null, .null], v.toList ++ [], t, (0, 0)) Q) ∧ (∀ k t, R (.inr k) t → Q (.inr k) t)) :
    mc_WP (162, 46, [.ref 65, .ref a1, .ref a2, .null, .null, .null], [.int y0], (I, J, rf_w r, sh_w N, n), (0, 0)) Q := by
  exact (mc_WP.run (mc_adjs _) 6 (And.intro rfl (And.intro rfl (And.intro (by decide) (And.intro (by decide) h)))))
set_option maxRecDepth 20000 in
theorem bk_162_56 {a1 : Nat} {a2 : Nat} {x3 : Int32} {y0 : Int32} (ha1 : is_R a1) (ha2 : is_F a2)
    (h : (¬ y0 = (I 68 4) →
        (Q (.inl none) ((mc_up I 74 2 (0 : Int32)), J, rf_w r, sh_w N, n))) ∧
        (¬ (¬ y0 = (I 68 4)) →
        (∃ R : mc_Q, mc_WP (mc_en 165 [.ref 65, .ref a2] (I, J, rf_w r, sh_w N, n)) R ∧ (∀ v t, R (.inl v) t → mc_WP (162, 71, [.ref 65, .ref a1, .ref a2, .int x3, .null, .null], v.toList ++ [], t, (0, 0)) Q) ∧ (∀ k t, R (.inr k) t → Q (.inr k) t)))) :
    mc_WP (162, 56, [.ref 65, .ref a1, .ref a2, .int x3, .null, .null], [.int y0], (I, J, rf_w r, sh_w N, n), (0, 0)) Q := by
  exact (mc_WP.run (mc_adjs _) 4 (And.intro ⟨rfl, (show ¬ (68 : Nat) = 0 by decide)⟩ (And.intro rfl (And.intro (fun c8 => (mc_WP.run (mc_adjs _) 4 (And.intro (fun _ => (mc_WP.run (mc_adjs _) 4 (And.intro (fun _ => (mc_WP.run (mc_adjs _) 3 (And.intro ⟨rfl, (show ¬ (74 : Nat) = 0 by decide)⟩ (And.intro rfl (And.intro (by decide) (And.intro (by decide) (mc_inl (mc_WP.run (mc_adjs _) 4 (And.intro ⟨rfl, (by decide)⟩ (mc_WP.run (mc_adjs _) 1 (h.1 c8))))))))))) (fun c => absurd (show (0 : Int32) = 0 by decide) c)))) (fun c => absurd (show (0 : Int32) = 0 by decide) c)))) (fun c8 => (mc_WP.run (mc_adjs _) 3 (And.intro rfl (And.intro (by decide) (And.intro (by decide) (h.2 c8))))))))))
set_option maxRecDepth 20000 in
theorem bk_162_71 {a1 : Nat} {a2 : Nat} {x3 : Int32} {y0 : Int32} (ha1 : is_R a1) (ha2 : is_F a2)
    (h : (y0 = 0 →
        (Q (.inl none) ((mc_up I 74 2 (0 : Int32)), J, rf_w r, sh_w N, n))) ∧
        (¬ (y0 = 0) →
        (((I 65 4) ≤ (x3 * (8 : Int32)) →
          (Q (.inl none) ((mc_up I 74 2 (0 : Int32)), J, rf_w r, sh_w N, n))) ∧
          (¬ ((I 65 4) ≤ (x3 * (8 : Int32))) →
          (∃ R : mc_Q, mc_WP (mc_en 191 [.ref a1, .ref a2] (I, J, rf_w r, sh_w N, n)) R ∧ (∀ v t, R (.inl v) t → mc_WP (162, 115, [.ref 65, .ref a1, .ref a2, .int x3, .int (1 : Int32), .int (1 : Int32)], v.toList ++ [.ref a2], t, (0, 0)) Q) ∧ (∀ k t, R (.inr k) t → Q (.inr k) t)))))) :
    mc_WP (162, 71, [.ref 65, .ref a1, .ref a2, .int x3, .null, .null], [.int y0], (I, J, rf_w r, sh_w N, n), (0, 0)) Q := by
  exact (mc_WP.run (mc_adjs _) 1 (And.intro (fun c17 => (mc_WP.run (mc_adjs _) 4 (And.intro (fun _ => (mc_WP.run (mc_adjs _) 4 (And.intro (fun _ => (mc_WP.run (mc_adjs _) 3 (And.intro ⟨rfl, (show ¬ (74 : Nat) = 0 by decide)⟩ (And.intro rfl (And.intro (by decide) (And.intro (by decide) (mc_inl (mc_WP.run (mc_adjs _) 4 (And.intro ⟨rfl, (by decide)⟩ (mc_WP.run (mc_adjs _) 1 (h.1 c17))))))))))) (fun c => absurd (show (0 : Int32) = 0 by decide) c)))) (fun c => absurd (show (0 : Int32) = 0 by decide) c)))) (fun c17 => (mc_WP.run (mc_adjs _) 2 (mc_WP.run (mc_adjs _) 3 (And.intro (fun c => absurd c (show ¬ ((1 : Int32) = 0) by decide)) (fun _ => (mc_WP.run (mc_adjs _) 6 (And.intro rfl (And.intro (fun c18 => (mc_WP.run (mc_adjs _) 4 (And.intro (fun _ => (mc_WP.run (mc_adjs _) 3 (And.intro ⟨rfl, (show ¬ (74 : Nat) = 0 by decide)⟩ (And.intro rfl (And.intro (by decide) (And.intro (by decide) (mc_inl (mc_WP.run (mc_adjs _) 4 (And.intro ⟨rfl, (by decide)⟩ (mc_WP.run (mc_adjs _) 1 ((h.2 c17).1 c18))))))))))) (fun c => absurd (show (0 : Int32) = 0 by decide) c)))) (fun c18 => (mc_WP.run (mc_adjs _) 2 (mc_WP.run (mc_adjs _) 3 (And.intro (fun c => absurd c (show ¬ ((1 : Int32) = 0) by decide)) (fun _ => (mc_WP.run (mc_adjs _) 4 (And.intro (wd_R (r := r) (N := N) ha1).1 (And.intro (by decide) (And.intro (by decide) ((h.2 c17).2 c18))))))))))))))))))))
set_option maxRecDepth 20000 in
theorem bk_162_115 {a1 : Nat} {a2 : Nat} {x3 : Int32} {x4 : Int32} {x5 : Int32} {b0 : Nat} {b1 : Nat} (ha1 : is_R a1) (ha2 : is_F a2) (hb0 : is_F b0) (hb1 : is_P b1)
    (h : ∃ R : mc_Q, mc_WP (mc_en 141 [.ref b0, .int (I b1 1)] (I, J, rf_w r, sh_w N, n)) R ∧ (∀ v t, R (.inl v) t → mc_WP (162, 121, [.ref 65, .ref a1, .ref a2, .int x3, .int x4, .int x5], v.toList ++ [], t, (0, 0)) Q) ∧ (∀ k t, R (.inr k) t → Q (.inr k) t)) :
    mc_WP (162, 115, [.ref 65, .ref a1, .ref a2, .int x3, .int x4, .int x5], [.ref b1, .ref b0], (I, J, rf_w r, sh_w N, n), (0, 0)) Q := by
  exact (mc_WP.run (mc_adjs _) 2 (And.intro (wd_P (r := r) (N := N) hb1).1 (And.intro (wd_F (r := r) (N := N) hb0).1 (And.intro (by decide) (And.intro (by decide) h)))))
set_option maxRecDepth 20000 in
theorem bk_162_121 {a1 : Nat} {a2 : Nat} {x3 : Int32} {x4 : Int32} {x5 : Int32} {y0 : Int32} (ha1 : is_R a1) (ha2 : is_F a2)
    (h : (¬ y0 = 0 → (Q (.inl none) (I, J, rf_w r, sh_w N, n))) ∧
        (¬ (¬ y0 = 0) →
        (Q (.inl none) ((mc_up I 74 2 (0 : Int32)), J, rf_w r, sh_w N, n)))) :
    mc_WP (162, 121, [.ref 65, .ref a1, .ref a2, .int x3, .int x4, .int x5], [.int y0], (I, J, rf_w r, sh_w N, n), (0, 0)) Q := by
  exact (mc_WP.run (mc_adjs _) 1 (And.intro (fun c6 => (mc_WP.run (mc_adjs _) 1 (h.1 c6))) (fun c6 => (mc_WP.run (mc_adjs _) 3 (And.intro ⟨rfl, (show ¬ (74 : Nat) = 0 by decide)⟩ (And.intro rfl (And.intro (by decide) (And.intro (by decide) (mc_inl (mc_WP.run (mc_adjs _) 4 (And.intro ⟨rfl, (by decide)⟩ (mc_WP.run (mc_adjs _) 1 (h.2 c6)))))))))))))
-- 163 takePlace(LPaletteReel$Reel;)LPaletteReel$Frame; inl<=1
set_option maxRecDepth 20000 in
theorem bk_163_0 {a1 : Nat} (ha1 : is_R a1)
    (h : ∃ R : mc_Q, mc_WP (mc_en 138 [.ref 74, .int (0 : Int32), .int (7 : Int32)] (I, J, rf_w r, sh_w N, n)) R ∧ (∀ v t, R (.inl v) t → mc_WP (163, 10, [.ref 65, .ref a1, .null, .null, .null, .null, .null], v.toList ++ [], t, (0, 0)) Q) ∧ (∀ k t, R (.inr k) t → Q (.inr k) t)) :
    mc_WP (mc_en 163 [.ref 65, .ref a1] (I, J, rf_w r, sh_w N, n)) Q := by
  exact (mc_WP.run (mc_adjs _) 5 (And.intro ⟨rfl, (show ¬ (74 : Nat) = 0 by decide)⟩ (And.intro rfl (And.intro (by decide) (And.intro (by decide) h)))))
set_option maxRecDepth 20000 in
theorem bk_163_10 {a1 : Nat} {y0 : Int32} (ha1 : is_R a1)
    (h : ∃ R : mc_Q, mc_WP (mc_en 138 [.ref 74, .int (0 : Int32), .int (7 : Int32)] (I, J, rf_w r, sh_w N, n)) R ∧ (∀ v t, R (.inl v) t → mc_WP (163, 21, [.ref 65, .ref a1, .int y0, .null, .null, .null, .null], v.toList ++ [], t, (0, 0)) Q) ∧ (∀ k t, R (.inr k) t → Q (.inr k) t)) :
    mc_WP (163, 10, [.ref 65, .ref a1, .null, .null, .null, .null, .null], [.int y0], (I, J, rf_w r, sh_w N, n), (0, 0)) Q := by
  exact (mc_WP.run (mc_adjs _) 6 (And.intro ⟨rfl, (show ¬ (74 : Nat) = 0 by decide)⟩ (And.intro rfl (And.intro (by decide) (And.intro (by decide) h)))))
set_option maxRecDepth 20000 in
theorem bk_163_21 {a1 : Nat} {x2 : Int32} {y0 : Int32} (ha1 : is_R a1)
    (h : ∃ R : mc_Q, mc_WP (mc_en 138 [.ref 74, .int (1 : Int32), .int (8 : Int32)] (I, J, rf_w r, sh_w N, n)) R ∧ (∀ v t, R (.inl v) t → mc_WP (163, 32, [.ref 65, .ref a1, .int x2, .int y0, .null, .null, .null], v.toList ++ [], t, (0, 0)) Q) ∧ (∀ k t, R (.inr k) t → Q (.inr k) t)) :
    mc_WP (163, 21, [.ref 65, .ref a1, .int x2, .null, .null, .null, .null], [.int y0], (I, J, rf_w r, sh_w N, n), (0, 0)) Q := by
  exact (mc_WP.run (mc_adjs _) 6 (And.intro ⟨rfl, (show ¬ (74 : Nat) = 0 by decide)⟩ (And.intro rfl (And.intro (by decide) (And.intro (by decide) h)))))
set_option maxRecDepth 20000 in
theorem bk_163_32 {a1 : Nat} {x2 : Int32} {x3 : Int32} {y0 : Int32} (ha1 : is_R a1)
    (h : ∃ R : mc_Q, mc_WP (mc_en 138 [.ref 74, .int (1 : Int32), .int (8 : Int32)] (I, J, rf_w r, sh_w N, n)) R ∧ (∀ v t, R (.inl v) t → mc_WP (163, 44, [.ref 65, .ref a1, .int x2, .int x3, .int y0, .null, .null], v.toList ++ [], t, (0, 0)) Q) ∧ (∀ k t, R (.inr k) t → Q (.inr k) t)) :
    mc_WP (163, 32, [.ref 65, .ref a1, .int x2, .int x3, .null, .null, .null], [.int y0], (I, J, rf_w r, sh_w N, n), (0, 0)) Q := by
  exact (mc_WP.run (mc_adjs _) 6 (And.intro ⟨rfl, (show ¬ (74 : Nat) = 0 by decide)⟩ (And.intro rfl (And.intro (by decide) (And.intro (by decide) h)))))
set_option maxRecDepth 20000 in
theorem bk_163_44 {a1 : Nat} {x2 : Int32} {x3 : Int32} {x4 : Int32} {y0 : Int32} (ha1 : is_R a1)
    (h : ∃ R : mc_Q, mc_WP (mc_en 190 [.ref a1, .int x2, .int x3, .int x4, .int y0] (I, J, rf_w r, sh_w N, n)) R ∧ (∀ v t, R (.inl v) t → mc_WP (163, 56, [.ref 65, .ref a1, .int x2, .int x3, .int x4, .int y0, .null], v.toList ++ [], t, (0, 0)) Q) ∧ (∀ k t, R (.inr k) t → Q (.inr k) t)) :
    mc_WP (163, 44, [.ref 65, .ref a1, .int x2, .int x3, .int x4, .null, .null], [.int y0], (I, J, rf_w r, sh_w N, n), (0, 0)) Q := by
  exact (mc_WP.run (mc_adjs _) 7 (And.intro (wd_R (r := r) (N := N) ha1).1 (And.intro (by decide) (And.intro (by decide) h))))
set_option maxRecDepth 20000 in
theorem bk_163_56 {a1 : Nat} {x2 : Int32} {x3 : Int32} {x4 : Int32} {x5 : Int32} {b0 : Nat} (ha1 : is_R a1) (hb0 : is_F b0)
    (h : Q (.inl (some (.ref b0))) ((mc_up (mc_up (mc_up I b0 6 (I 65 5)) b0 7 ((mc_up I b0 6 (I 65 5)) 65 6)) b0 8 ((mc_up (mc_up I b0 6 (I 65 5)) b0 7 ((mc_up I b0 6 (I 65 5)) 65 6)) 65 7)), J, rf_w r, sh_w N, n)) :
    mc_WP (163, 56, [.ref 65, .ref a1, .int x2, .int x3, .int x4, .int x5, .null], [.ref b0], (I, J, rf_w r, sh_w N, n), (0, 0)) Q := by
  exact (mc_WP.run (mc_adjs _) 15 (And.intro rfl (And.intro (wd_F (r := r) (N := N) hb0).1 (And.intro rfl (And.intro (wd_F (r := r) (N := N) hb0).1 (And.intro rfl (And.intro (wd_F (r := r) (N := N) hb0).1 h)))))))
-- 164 takeFlags(LPaletteReel$Frame;)V inl<=1
set_option maxRecDepth 20000 in
theorem bk_164_0 {a1 : Nat} (ha1 : is_F a1)
    (h : ∃ R : mc_Q, mc_WP (mc_en 138 [.ref 74, .int (0 : Int32), .int (15 : Int32)] (I, J, rf_w r, sh_w N, n)) R ∧ (∀ v t, R (.inl v) t → mc_WP (164, 10, [.ref 65, .ref a1, .null], v.toList ++ [], t, (0, 0)) Q) ∧ (∀ k t, R (.inr k) t → Q (.inr k) t)) :
    mc_WP (mc_en 164 [.ref 65, .ref a1] (I, J, rf_w r, sh_w N, n)) Q := by
  exact (mc_WP.run (mc_adjs _) 5 (And.intro ⟨rfl, (show ¬ (74 : Nat) = 0 by decide)⟩ (And.intro rfl (And.intro (by decide) (And.intro (by decide) h)))))
set_option maxRecDepth 20000 in
theorem bk_164_10 {a1 : Nat} {y0 : Int32} (ha1 : is_F a1)
    (h : ((y0 &&& (1 : Int32)) = 0 →
        (((y0 &&& (2 : Int32)) = 0 →
          ((y0 ≤ (1 : Int32) →
            (Q (.inl none) ((mc_up I a1 9 (0 : Int32)), J, rf_w r, sh_w N, n))) ∧
            (¬ (y0 ≤ (1 : Int32)) →
            (Q (.inl none) ((mc_up (mc_up I a1 9 (0 : Int32)) 74 2 (0 : Int32)), J, rf_w r, sh_w N, n))))) ∧
          (¬ ((y0 &&& (2 : Int32)) = 0) →
          (∃ R : mc_Q, mc_WP (mc_en 156 [.ref (a1 + 2), .int ((2 : Int32) <<< ((y0 >>> ((2 : Int32) &&& 31)) &&& 31))] ((mc_up I a1 9 (0 : Int32)), J, rf_w r, sh_w N, n)) R ∧ (∀ v t, R (.inl v) t → mc_WP (164, 44, [.ref 65, .ref a1, .int y0], v.toList ++ [], t, (0, 0)) Q) ∧ (∀ k t, R (.inr k) t → Q (.inr k) t))))) ∧
        (¬ ((y0 &&& (1 : Int32)) = 0) →
        (((y0 &&& (2 : Int32)) = 0 →
          ((y0 ≤ (1 : Int32) →
            (Q (.inl none) ((mc_up I a1 9 (1 : Int32)), J, rf_w r, sh_w N, n))) ∧
            (¬ (y0 ≤ (1 : Int32)) →
            (Q (.inl none) ((mc_up (mc_up I a1 9 (1 : Int32)) 74 2 (0 : Int32)), J, rf_w r, sh_w N, n))))) ∧
          (¬ ((y0 &&& (2 : Int32)) = 0) →
          (∃ R : mc_Q, mc_WP (mc_en 156 [.ref (a1 + 2), .int ((2 : Int32) <<< ((y0 >>> ((2 : Int32) &&& 31)) &&& 31))] ((mc_up I a1 9 (1 : Int32)), J, rf_w r, sh_w N, n)) R ∧ (∀ v t, R (.inl v) t → mc_WP (164, 44, [.ref 65, .ref a1, .int y0], v.toList ++ [], t, (0, 0)) Q) ∧ (∀ k t, R (.inr k) t → Q (.inr k) t)))))) :
    mc_WP (164, 10, [.ref 65, .ref a1, .null], [.int y0], (I, J, rf_w r, sh_w N, n), (0, 0)) Q := by
  exact (mc_WP.run (mc_adjs _) 6 (And.intro (fun c23 => (mc_WP.run (mc_adjs _) 6 (And.intro ⟨(wd_F (r := r) (N := N) ha1).1, (by decide)⟩ (And.intro (fun c24 => (mc_WP.run (mc_adjs _) 3 (And.intro (fun c25 => (mc_WP.run (mc_adjs _) 1 (((h.1 c23).1 c24).1 c25))) (fun c25 => (mc_WP.run (mc_adjs _) 3 (And.intro ⟨rfl, (show ¬ (74 : Nat) = 0 by decide)⟩ (And.intro rfl (And.intro (by decide) (And.intro (by decide) (mc_inl (mc_WP.run (mc_adjs _) 4 (And.intro ⟨rfl, (by decide)⟩ (mc_WP.run (mc_adjs _) 1 (((h.1 c23).1 c24).2 c25)))))))))))))) (fun c24 => (by have g8 := ((h.1 c23).2 c24); have e9 : rf_w r a1 1 = (a1 + 2) := (wd_F (r := r) (N := N) ha1).2.2.1; have s10 : sh_w N (rf_w r a1 1) = (1, 6) := (by rw [e9]; exact (wd_F (r := r) (N := N) ha1).2.2.2.2.1); have k11 : is_P (rf_w r a1 1) := (by rw [e9]; exact (wd_F (r := r) (N := N) ha1).2.2.2.2.2); (try rw [← e9] at g8); exact (mc_WP.run (mc_adjs _) 8 (And.intro ⟨(wd_F (r := r) (N := N) ha1).1, (wd_Z s10)⟩ (And.intro s10 (And.intro (by decide) (And.intro (by decide) g8))))))))))) (fun c23 => (mc_WP.run (mc_adjs _) 2 (mc_WP.run (mc_adjs _) 5 (And.intro ⟨(wd_F (r := r) (N := N) ha1).1, (by decide)⟩ (And.intro (fun c26 => (mc_WP.run (mc_adjs _) 3 (And.intro (fun c27 => (mc_WP.run (mc_adjs _) 1 (((h.2 c23).1 c26).1 c27))) (fun c27 => (mc_WP.run (mc_adjs _) 3 (And.intro ⟨rfl, (show ¬ (74 : Nat) = 0 by decide)⟩ (And.intro rfl (And.intro (by decide) (And.intro (by decide) (mc_inl (mc_WP.run (mc_adjs _) 4 (And.intro ⟨rfl, (by decide)⟩ (mc_WP.run (mc_adjs _) 1 (((h.2 c23).1 c26).2 c27)))))))))))))) (fun c26 => (by have g19 := ((h.2 c23).2 c26); have e20 : rf_w r a1 1 = (a1 + 2) := (wd_F (r := r) (N := N) ha1).2.2.1; have s21 : sh_w N (rf_w r a1 1) = (1, 6) := (by rw [e20]; exact (wd_F (r := r) (N := N) ha1).2.2.2.2.1); have k22 : is_P (rf_w r a1 1) := (by rw [e20]; exact (wd_F (r := r) (N := N) ha1).2.2.2.2.2); (try rw [← e20] at g19); exact (mc_WP.run (mc_adjs _) 8 (And.intro ⟨(wd_F (r := r) (N := N) ha1).1, (wd_Z s21)⟩ (And.intro s21 (And.intro (by decide) (And.intro (by decide) g19))))))))))))))
set_option maxRecDepth 20000 in
theorem bk_164_44 {a1 : Nat} {x2 : Int32} (ha1 : is_F a1)
    (h : Q (.inl none) (I, J, rf_w r, sh_w N, n)) :
    mc_WP (164, 44, [.ref 65, .ref a1, .int x2], [], (I, J, rf_w r, sh_w N, n), (0, 0)) Q := by
  exact (mc_WP.run (mc_adjs _) 1 (mc_WP.run (mc_adjs _) 1 h))
-- 165 takeStrings(LPaletteReel$Frame;)Z inl<=6
set_option maxRecDepth 20000 in
theorem bk_165_0 {a1 : Nat} (ha1 : is_F a1)
    (h : ∃ R : mc_Q, mc_WP (mc_en 143 [.ref a1, .ref 73] (I, J, rf_w r, sh_w N, n)) R ∧ (∀ v t, R (.inl v) t → mc_WP (165, 8, [.ref 65, .ref a1, .null, .null, .null, .null], v.toList ++ [], t, (0, 0)) Q) ∧ (∀ k t, R (.inr k) t → Q (.inr k) t)) :
    mc_WP (mc_en 165 [.ref 65, .ref a1] (I, J, rf_w r, sh_w N, n)) Q := by
  exact (mc_WP.run (mc_adjs _) 4 (And.intro ⟨rfl, (show ¬ (73 : Nat) = 0 by decide)⟩ (And.intro (wd_F (r := r) (N := N) ha1).1 (And.intro (by decide) (And.intro (by decide) h)))))
set_option maxRecDepth 20000 in
theorem bk_165_8 {a1 : Nat} {y0 : Int32} (ha1 : is_F a1)
    (h : mc_WP (165, 14, [.ref 65, .ref a1, .int y0, .int (0 : Int32), .int (0 : Int32), .null], [], (I, J, rf_w r, sh_w N, n), (0, 0)) Q) :
    mc_WP (165, 8, [.ref 65, .ref a1, .null, .null, .null, .null], [.int y0], (I, J, rf_w r, sh_w N, n), (0, 0)) Q := by
  exact (mc_WP.run (mc_adjs _) 5 h)
set_option maxRecDepth 20000 in
theorem bk_165_14 {a1 : Nat} {x2 : Int32} {x3 : Int32} {x4 : Int32} {x5 : Value} (ha1 : is_F a1)
    (h : ((6400 : Int32) ≤ x4 → (Q (.inl (some (.int (0 : Int32)))) (I, J, rf_w r, sh_w N, n))) ∧
        (¬ ((6400 : Int32) ≤ x4) →
        (((I 74 2) = 0 → (Q (.inl (some (.int (0 : Int32)))) (I, J, rf_w r, sh_w N, n))) ∧
          (¬ ((I 74 2) = 0) →
          (∃ R : mc_Q, mc_WP (mc_en 166 [.ref 65] (I, J, rf_w r, sh_w N, n)) R ∧ (∀ v t, R (.inl v) t → mc_WP (165, 36, [.ref 65, .ref a1, .int x2, .int x3, .int x4, x5], v.toList ++ [], t, (0, 0)) Q) ∧ (∀ k t, R (.inr k) t → Q (.inr k) t)))))) :
    mc_WP (165, 14, [.ref 65, .ref a1, .int x2, .int x3, .int x4, x5], [], (I, J, rf_w r, sh_w N, n), (0, 0)) Q := by
  exact (mc_WP.run (mc_adjs _) 3 (And.intro (fun c6 => (mc_WP.run (mc_adjs _) 2 (And.intro (by decide) (h.1 c6)))) (fun c6 => (mc_WP.run (mc_adjs _) 4 (And.intro ⟨rfl, (show ¬ (74 : Nat) = 0 by decide)⟩ (And.intro rfl (And.intro (fun c7 => (mc_WP.run (mc_adjs _) 2 (And.intro (by decide) ((h.2 c6).1 c7)))) (fun c7 => (mc_WP.run (mc_adjs _) 2 (And.intro rfl (And.intro (by decide) (And.intro (by decide) ((h.2 c6).2 c7)))))))))))))
set_option maxRecDepth 20000 in
theorem bk_165_36 {a1 : Nat} {x2 : Int32} {x3 : Int32} {x4 : Int32} {x5 : Value} {y0 : Int32} (ha1 : is_F a1)
    (h : (¬ y0 = (I 68 5) →
        ((¬ y0 = (I 68 4) →
          (∃ R : mc_Q, mc_WP (mc_en 200 [.ref 68, .int y0] (I, J, rf_w r, sh_w N, n)) R ∧ (∀ v t, R (.inl v) t → mc_WP (165, 92, [.ref 65, .ref a1, .int x2, .int x3, .int x4, .int y0], v.toList ++ [], t, (0, 0)) Q) ∧ (∀ k t, R (.inr k) t → Q (.inr k) t))) ∧
          (¬ (¬ y0 = (I 68 4)) →
          (mc_WP (165, 14, [.ref 65, .ref a1, .int x2, .int x3, .int (x4 + (1 : Int32)), .int y0], [], ((mc_up (mc_up I 68 6 ((I 68 5) + (1 : Int32))) 68 7 (-1 : Int32)), J, rf_w r, sh_w N, n), (0, 0)) Q)))) ∧
        (¬ (¬ y0 = (I 68 5)) →
        ((¬ x3 = x2 → (Q (.inl (some (.int (0 : Int32)))) (I, J, rf_w r, sh_w N, n))) ∧
          (¬ (¬ x3 = x2) → (Q (.inl (some (.int (1 : Int32)))) (I, J, rf_w r, sh_w N, n)))))) :
    mc_WP (165, 36, [.ref 65, .ref a1, .int x2, .int x3, .int x4, x5], [.int y0], (I, J, rf_w r, sh_w N, n), (0, 0)) Q := by
  exact (mc_WP.run (mc_adjs _) 6 (And.intro ⟨rfl, (show ¬ (68 : Nat) = 0 by decide)⟩ (And.intro rfl (And.intro (fun c12 => (mc_WP.run (mc_adjs _) 5 (And.intro ⟨rfl, (show ¬ (68 : Nat) = 0 by decide)⟩ (And.intro rfl (And.intro (fun c13 => (mc_WP.run (mc_adjs _) 4 (And.intro ⟨rfl, (show ¬ (68 : Nat) = 0 by decide)⟩ (And.intro rfl (And.intro (by decide) (And.intro (by decide) ((h.1 c12).1 c13))))))) (fun c13 => (mc_WP.run (mc_adjs _) 3 (And.intro ⟨rfl, (show ¬ (68 : Nat) = 0 by decide)⟩ (And.intro rfl (And.intro (by decide) (And.intro (by decide) (mc_inl (mc_WP.run (mc_adjs _) 10 (And.intro rfl (And.intro rfl (And.intro rfl (mc_WP.run (mc_adjs _) 1 (mc_WP.run (mc_adjs _) 2 ((h.1 c12).2 c13))))))))))))))))))) (fun c12 => (mc_WP.run (mc_adjs _) 3 (And.intro (fun c14 => (mc_WP.run (mc_adjs _) 2 (And.intro (by decide) ((h.2 c12).1 c14)))) (fun c14 => (mc_WP.run (mc_adjs _) 2 (mc_WP.run (mc_adjs _) 1 (And.intro (by decide) ((h.2 c12).2 c14))))))))))))
set_option maxRecDepth 20000 in
theorem bk_165_92 {a1 : Nat} {x2 : Int32} {x3 : Int32} {x4 : Int32} {x5 : Int32} {y0 : Int32} (ha1 : is_F a1)
    (h : (y0 = 0 → (Q (.inl (some (.int (0 : Int32)))) (I, J, rf_w r, sh_w N, n))) ∧
        (¬ (y0 = 0) →
        (∃ R : mc_Q, mc_WP (mc_en 167 [.ref 65, .ref (a1 + 1), .int x5, .int x3, .int x2] (I, J, rf_w r, sh_w N, n)) R ∧ (∀ v t, R (.inl v) t → mc_WP (165, 108, [.ref 65, .ref a1, .int x2, .int x3, .int x4, .int x5], v.toList ++ [.int x3], t, (0, 0)) Q) ∧ (∀ k t, R (.inr k) t → Q (.inr k) t)))) :
    mc_WP (165, 92, [.ref 65, .ref a1, .int x2, .int x3, .int x4, .int x5], [.int y0], (I, J, rf_w r, sh_w N, n), (0, 0)) Q := by
  exact (mc_WP.run (mc_adjs _) 1 (And.intro (fun c6 => (mc_WP.run (mc_adjs _) 2 (And.intro (by decide) (h.1 c6)))) (fun c6 => (by have g3 := (h.2 c6); have e4 : rf_w r a1 0 = (a1 + 1) := (wd_F (r := r) (N := N) ha1).2.1; have s5 : sh_w N (rf_w r a1 0) = (2, 64) := (by rw [e4]; exact (wd_F (r := r) (N := N) ha1).2.2.2.1); have ts5 : 10 ≤ rf_w r a1 0 := (by rw [e4]; exact wd_tF ha1 _); (try rw [← e4] at g3); exact (mc_WP.run (mc_adjs _) 8 (And.intro ⟨(wd_F (r := r) (N := N) ha1).1, (wd_Z s5)⟩ (And.intro rfl (And.intro (by decide) (And.intro (by decide) g3)))))))))
set_option maxRecDepth 20000 in
theorem bk_165_108 {a1 : Nat} {x2 : Int32} {x3 : Int32} {x4 : Int32} {x5 : Int32} {y0 : Int32} {y1 : Int32} (ha1 : is_F a1)
    (h : mc_WP (165, 14, [.ref 65, .ref a1, .int x2, .int (y0 + y1), .int (x4 + (1 : Int32)), .int x5], [], (I, J, rf_w r, sh_w N, n), (0, 0)) Q) :
    mc_WP (165, 108, [.ref 65, .ref a1, .int x2, .int x3, .int x4, .int x5], [.int y1, .int y0], (I, J, rf_w r, sh_w N, n), (0, 0)) Q := by
  exact (mc_WP.run (mc_adjs _) 3 (mc_WP.run (mc_adjs _) 2 h))
-- 166 takeCode()I inl<=6
set_option maxRecDepth 20000 in
theorem bk_166_0
    (h : ∃ R : mc_Q, mc_WP (mc_en 199 [.ref 68] (I, J, rf_w r, sh_w N, n)) R ∧ (∀ v t, R (.inl v) t → mc_WP (166, 9, [.ref 65, .int (0 : Int32), .null, .null, .null], v.toList ++ [], t, (0, 0)) Q) ∧ (∀ k t, R (.inr k) t → Q (.inr k) t)) :
    mc_WP (mc_en 166 [.ref 65] (I, J, rf_w r, sh_w N, n)) Q := by
  exact (mc_WP.run (mc_adjs _) 5 (And.intro ⟨rfl, (show ¬ (68 : Nat) = 0 by decide)⟩ (And.intro rfl (And.intro (by decide) (And.intro (by decide) h)))))
set_option maxRecDepth 20000 in
theorem bk_166_9 {x1 : Int32} {y0 : Int32}
    (h : mc_WP (166, 12, [.ref 65, .int x1, .int y0, .int (0 : Int32), .null], [], (I, J, rf_w r, sh_w N, n), (0, 0)) Q) :
    mc_WP (166, 9, [.ref 65, .int x1, .null, .null, .null], [.int y0], (I, J, rf_w r, sh_w N, n), (0, 0)) Q := by
  exact (mc_WP.run (mc_adjs _) 3 h)
set_option maxRecDepth 20000 in
theorem bk_166_12 {x1 : Int32} {x2 : Int32} {x3 : Int32} {x4 : Value}
    (h : (x2 ≤ x3 → (Q (.inl (some (.int x1))) (I, J, rf_w r, sh_w N, n))) ∧
        (¬ (x2 ≤ x3) →
        (¬ (8 : Int32) = 0 ∧ (((I 65 4) / (8 : Int32)) < (I 66 1) →
          (vp_in ((I 65 4) / (8 : Int32)) 800 ∧ ¬ (8 : Int32) = 0 ∧ mc_WP (166, 12, [.ref 65, .int (x1 ||| ((((I 67 ((I 65 4) / (8 : Int32)).toNatClampNeg) >>> (((I 65 4) - (I 65 4) / (8 : Int32) * (8 : Int32)) &&& 31)) &&& (1 : Int32)) <<< (x3 &&& 31))), .int x2, .int (x3 + (1 : Int32)), .int ((I 65 4) / (8 : Int32))], [], ((mc_up I 65 4 ((I 65 4) + (1 : Int32))), J, rf_w r, sh_w N, n), (0, 0)) Q)) ∧
          (¬ (((I 65 4) / (8 : Int32)) < (I 66 1)) →
          (Q (.inl (some (.int (0 : Int32)))) ((mc_up I 74 2 (0 : Int32)), J, rf_w r, sh_w N, n)))))) :
    mc_WP (166, 12, [.ref 65, .int x1, .int x2, .int x3, x4], [], (I, J, rf_w r, sh_w N, n), (0, 0)) Q := by
  exact (mc_WP.run (mc_adjs _) 3 (And.intro (fun c8 => (mc_WP.run (mc_adjs _) 2 (h.1 c8))) (fun c8 => (mc_WP.run (mc_adjs _) 10 (And.intro rfl (And.intro (by decide) (And.intro ⟨rfl, (show ¬ (66 : Nat) = 0 by decide)⟩ (And.intro rfl (And.intro (fun c9 => (mc_WP.run (mc_adjs _) 25 (And.intro ⟨rfl, (show ¬ (66 : Nat) = 0 by decide)⟩ (And.intro ⟨rfl, (show ¬ (67 : Nat) = 0 by decide)⟩ (And.intro (wl_ld rfl ((h.2 c8).2.1 c9).1) (And.intro rfl (And.intro (by decide) (And.intro rfl (And.intro rfl ((h.2 c8).2.1 c9).2.2))))))))) (fun c9 => (mc_WP.run (mc_adjs _) 3 (And.intro ⟨rfl, (show ¬ (74 : Nat) = 0 by decide)⟩ (And.intro rfl (And.intro (by decide) (And.intro (by decide) (mc_inl (mc_WP.run (mc_adjs _) 4 (And.intro ⟨rfl, (by decide)⟩ (mc_WP.run (mc_adjs _) 2 ((h.2 c8).2.2 c9))))))))))))))))))))
-- 167 takeString([IIII)I inl<=1
set_option maxRecDepth 20000 in
theorem bk_167_0 {a1 : Nat} {a1z : Nat} {x2 : Int32} {x3 : Int32} {x4 : Int32} (ha1 : sh_w N a1 = (2, a1z))
    (h : ∃ R : mc_Q, mc_WP (mc_en 201 [.ref 68, .int x2] (I, J, rf_w r, sh_w N, n)) R ∧ (∀ v t, R (.inl v) t → mc_WP (167, 12, [.ref 65, .ref a1, .int x2, .int x3, .int x4, .null, .null, .null], v.toList ++ [.ref 68], t, (0, 0)) Q) ∧ (∀ k t, R (.inr k) t → Q (.inr k) t)) :
    mc_WP (mc_en 167 [.ref 65, .ref a1, .int x2, .int x3, .int x4] (I, J, rf_w r, sh_w N, n)) Q := by
  exact (mc_WP.run (mc_adjs _) 6 (And.intro ⟨rfl, (show ¬ (68 : Nat) = 0 by decide)⟩ (And.intro ⟨rfl, (show ¬ (68 : Nat) = 0 by decide)⟩ (And.intro rfl (And.intro (by decide) (And.intro (by decide) h))))))
set_option maxRecDepth 20000 in
theorem bk_167_12 {a1 : Nat} {a1z : Nat} {x2 : Int32} {x3 : Int32} {x4 : Int32} {b0 : Nat} {y1 : Int32} (ha1 : sh_w N a1 = (2, a1z)) (hb0 : is_G b0)
    (h : ∃ R : mc_Q, mc_WP (mc_en 202 [.ref b0, .int y1] (I, J, rf_w r, sh_w N, n)) R ∧ (∀ v t, R (.inl v) t → mc_WP (167, 15, [.ref 65, .ref a1, .int x2, .int x3, .int x4, .null, .null, .null], v.toList ++ [], t, (0, 0)) Q) ∧ (∀ k t, R (.inr k) t → Q (.inr k) t)) :
    mc_WP (167, 12, [.ref 65, .ref a1, .int x2, .int x3, .int x4, .null, .null, .null], [.int y1, .ref b0], (I, J, rf_w r, sh_w N, n), (0, 0)) Q := by
  exact (mc_WP.run (mc_adjs _) 1 (And.intro (wd_G (r := r) (N := N) hb0).1 (And.intro (by decide) (And.intro (by decide) h))))
set_option maxRecDepth 20000 in
theorem bk_167_15 {a1 : Nat} {a1z : Nat} {x2 : Int32} {x3 : Int32} {x4 : Int32} (ha1 : sh_w N a1 = (2, a1z))
    (h : vp_in x2 64 ∧ ((x3 + (I 72 x2.toNatClampNeg)) ≤ x4 →
        (mc_WP (167, 63, [.ref 65, .ref a1, .int x2, .int x3, .int x4, .int (I 72 x2.toNatClampNeg), .int x2, .int ((x3 + (I 72 x2.toNatClampNeg)) - (1 : Int32))], [], ((mc_up I 68 7 x2), J, rf_w r, sh_w N, n), (0, 0)) Q)) ∧
        (¬ ((x3 + (I 72 x2.toNatClampNeg)) ≤ x4) →
        (Q (.inl (some (.int (0 : Int32)))) ((mc_up (mc_up I 68 7 x2) 74 2 (0 : Int32)), J, rf_w r, sh_w N, n)))) :
    mc_WP (167, 15, [.ref 65, .ref a1, .int x2, .int x3, .int x4, .null, .null, .null], [], (I, J, rf_w r, sh_w N, n), (0, 0)) Q := by
  exact (mc_WP.run (mc_adjs _) 15 (And.intro ⟨rfl, (show ¬ (68 : Nat) = 0 by decide)⟩ (And.intro rfl (And.intro ⟨rfl, (show ¬ (68 : Nat) = 0 by decide)⟩ (And.intro ⟨rfl, (show ¬ (72 : Nat) = 0 by decide)⟩ (And.intro (wl_ld rfl h.1) (And.intro (fun c6 => (mc_WP.run (mc_adjs _) 8 (h.2.1 c6))) (fun c6 => (mc_WP.run (mc_adjs _) 3 (And.intro ⟨rfl, (show ¬ (74 : Nat) = 0 by decide)⟩ (And.intro rfl (And.intro (by decide) (And.intro (by decide) (mc_inl (mc_WP.run (mc_adjs _) 4 (And.intro ⟨rfl, (by decide)⟩ (mc_WP.run (mc_adjs _) 2 (h.2.2 c6))))))))))))))))))
set_option maxRecDepth 20000 in
theorem bk_167_63 {a1 : Nat} {a1z : Nat} {x2 : Int32} {x3 : Int32} {x4 : Int32} {x5 : Int32} {x6 : Int32} {x7 : Int32} (ha1 : sh_w N a1 = (2, a1z)) (ga1 : 10 ≤ a1)
    (h : (x7 < x3 → (Q (.inl (some (.int x5))) (I, J, rf_w r, sh_w N, n))) ∧
        (¬ (x7 < x3) →
        (vp_in x7 64 ∧ vp_in x6 64 ∧ vp_in (I 73 x7.toNatClampNeg) a1z ∧ vp_in x6 64 ∧ mc_WP (167, 63, [.ref 65, .ref a1, .int x2, .int x3, .int x4, .int x5, .int ((mc_up I a1 (I 73 x7.toNatClampNeg).toNatClampNeg (I 71 x6.toNatClampNeg)) 69 x6.toNatClampNeg), .int (x7 + (-1 : Int32))], [], ((mc_up I a1 (I 73 x7.toNatClampNeg).toNatClampNeg (I 71 x6.toNatClampNeg)), J, rf_w r, sh_w N, n), (0, 0)) Q))) :
    mc_WP (167, 63, [.ref 65, .ref a1, .int x2, .int x3, .int x4, .int x5, .int x6, .int x7], [], (I, J, rf_w r, sh_w N, n), (0, 0)) Q := by
  exact (mc_WP.run (mc_adjs _) 3 (And.intro (fun c4 => (mc_WP.run (mc_adjs _) 2 (h.1 c4))) (fun c4 => (mc_WP.run (mc_adjs _) 19 (And.intro ⟨rfl, (show ¬ (73 : Nat) = 0 by decide)⟩ (And.intro (wl_ld rfl (h.2 c4).1) (And.intro ⟨rfl, (show ¬ (68 : Nat) = 0 by decide)⟩ (And.intro ⟨rfl, (show ¬ (71 : Nat) = 0 by decide)⟩ (And.intro (wl_ld rfl (h.2 c4).2.1) (And.intro (wl_st ha1 (h.2 c4).2.2.1 ga1) (And.intro ⟨rfl, (show ¬ (68 : Nat) = 0 by decide)⟩ (And.intro ⟨rfl, (show ¬ (69 : Nat) = 0 by decide)⟩ (And.intro (wl_ld rfl (h.2 c4).2.2.2.1) (h.2 c4).2.2.2.2)))))))))))))
-- 168 bringTo(LPaletteReel$Frame;II)I inl<=6
set_option maxRecDepth 20000 in
theorem bk_168_0 {a1 : Nat} {x2 : Int32} {x3 : Int32} (ha1 : is_F a1)
    (h : ∃ R : mc_Q, mc_WP (mc_en 169 [.ref 76, .int ((mc_up I 76 10 x3) a1 4), .int ((mc_up I 76 10 x3) a1 5)] ((mc_up I 76 10 x3), J, rf_w r, sh_w N, n)) R ∧ (∀ v t, R (.inl v) t → mc_WP (168, 17, [.ref 76, .ref a1, .int x2, .int x3, .null], v.toList ++ [], t, (0, 0)) Q) ∧ (∀ k t, R (.inr k) t → Q (.inr k) t)) :
    mc_WP (mc_en 168 [.ref 76, .ref a1, .int x2, .int x3] (I, J, rf_w r, sh_w N, n)) Q := by
  exact (mc_WP.run (mc_adjs _) 9 (And.intro rfl (And.intro (wd_F (r := r) (N := N) ha1).1 (And.intro (wd_F (r := r) (N := N) ha1).1 (And.intro rfl (And.intro (by decide) (And.intro (by decide) h)))))))
set_option maxRecDepth 20000 in
theorem bk_168_17 {a1 : Nat} {x2 : Int32} {x3 : Int32} (ha1 : is_F a1)
    (h : ∃ R : mc_Q, mc_WP (mc_en 171 [.ref 76, .int x2] (I, J, rf_w r, sh_w N, n)) R ∧ (∀ v t, R (.inl v) t → mc_WP (168, 22, [.ref 76, .ref a1, .int x2, .int x3, .null], v.toList ++ [], t, (0, 0)) Q) ∧ (∀ k t, R (.inr k) t → Q (.inr k) t)) :
    mc_WP (168, 17, [.ref 76, .ref a1, .int x2, .int x3, .null], [], (I, J, rf_w r, sh_w N, n), (0, 0)) Q := by
  exact (mc_WP.run (mc_adjs _) 3 (And.intro rfl (And.intro (by decide) (And.intro (by decide) h))))
set_option maxRecDepth 20000 in
theorem bk_168_22 {a1 : Nat} {x2 : Int32} {x3 : Int32} (ha1 : is_F a1)
    (h : ∃ R : mc_Q, mc_WP (mc_en 55 [.int (I 76 9)] (I, J, rf_w r, sh_w N, n)) R ∧ (∀ v t, R (.inl v) t → mc_WP (168, 34, [.ref 76, .ref a1, .int x2, .int x3, .null], v.toList ++ [.int (1 : Int32), .ref (a1 + 2)], t, (0, 0)) Q) ∧ (∀ k t, R (.inr k) t → Q (.inr k) t)) :
    mc_WP (168, 22, [.ref 76, .ref a1, .int x2, .int x3, .null], [], (I, J, rf_w r, sh_w N, n), (0, 0)) Q := by
  exact (by have g1 := h; have e2 : rf_w r a1 1 = (a1 + 2) := (wd_F (r := r) (N := N) ha1).2.2.1; have s3 : sh_w N (rf_w r a1 1) = (1, 6) := (by rw [e2]; exact (wd_F (r := r) (N := N) ha1).2.2.2.2.1); have k4 : is_P (rf_w r a1 1) := (by rw [e2]; exact (wd_F (r := r) (N := N) ha1).2.2.2.2.2); (try rw [← e2] at g1); exact (mc_WP.run (mc_adjs _) 6 (And.intro ⟨(wd_F (r := r) (N := N) ha1).1, (wd_Z s3)⟩ (And.intro rfl (And.intro (by decide) (And.intro (by decide) g1))))))
set_option maxRecDepth 20000 in
theorem bk_168_34 {a1 : Nat} {x2 : Int32} {x3 : Int32} {b0 : Nat} {y1 : Int32} {y2 : Int32} (ha1 : is_F a1) (hb0 : is_P b0)
    (h : ∃ R : mc_Q, mc_WP (mc_en 156 [.ref b0, .int (y1 <<< (y2 &&& 31))] (I, J, rf_w r, sh_w N, n)) R ∧ (∀ v t, R (.inl v) t → mc_WP (168, 38, [.ref 76, .ref a1, .int x2, .int x3, .null], v.toList ++ [], t, (0, 0)) Q) ∧ (∀ k t, R (.inr k) t → Q (.inr k) t)) :
    mc_WP (168, 34, [.ref 76, .ref a1, .int x2, .int x3, .null], [.int y2, .int y1, .ref b0], (I, J, rf_w r, sh_w N, n), (0, 0)) Q := by
  exact (mc_WP.run (mc_adjs _) 2 (And.intro (wd_P (r := r) (N := N) hb0).1 (And.intro (by decide) (And.intro (by decide) h))))
set_option maxRecDepth 20000 in
theorem bk_168_38 {a1 : Nat} {x2 : Int32} {x3 : Int32} (ha1 : is_F a1)
    (h : mc_WP (168, 41, [.ref 76, .ref a1, .int x2, .int x3, .int (0 : Int32)], [], (I, J, rf_w r, sh_w N, n), (0, 0)) Q) :
    mc_WP (168, 38, [.ref 76, .ref a1, .int x2, .int x3, .null], [], (I, J, rf_w r, sh_w N, n), (0, 0)) Q := by
  exact (mc_WP.run (mc_adjs _) 2 h)
set_option maxRecDepth 20000 in
theorem bk_168_41 {a1 : Nat} {x2 : Int32} {x3 : Int32} {x4 : Int32} (ha1 : is_F a1)
    (h : ((I 76 9) ≤ x4 →
        (∃ R : mc_Q, mc_WP (mc_en 205 [.ref 82, .int (0 : Int32)] (I, J, rf_w r, sh_w N, n)) R ∧ (∀ v t, R (.inl v) t → mc_WP (168, 93, [.ref 76, .ref a1, .int x2, .int x3, .int x4], v.toList ++ [], t, (0, 0)) Q) ∧ (∀ k t, R (.inr k) t → Q (.inr k) t))) ∧
        (¬ ((I 76 9) ≤ x4) →
        (∃ R : mc_Q, mc_WP (mc_en 181 [.ref 76, .int x4] (I, J, rf_w r, sh_w N, n)) R ∧ (∀ v t, R (.inl v) t → mc_WP (168, 62, [.ref 76, .ref a1, .int x2, .int x3, .int x4], v.toList ++ [.int x4, .ref 81], t, (0, 0)) Q) ∧ (∀ k t, R (.inr k) t → Q (.inr k) t)))) :
    mc_WP (168, 41, [.ref 76, .ref a1, .int x2, .int x3, .int x4], [], (I, J, rf_w r, sh_w N, n), (0, 0)) Q := by
  exact (mc_WP.run (mc_adjs _) 4 (And.intro rfl (And.intro (fun c4 => (mc_WP.run (mc_adjs _) 4 (And.intro ⟨rfl, (show ¬ (82 : Nat) = 0 by decide)⟩ (And.intro (by decide) (And.intro (by decide) (h.1 c4)))))) (fun c4 => (mc_WP.run (mc_adjs _) 6 (And.intro ⟨rfl, (show ¬ (81 : Nat) = 0 by decide)⟩ (And.intro rfl (And.intro (by decide) (And.intro (by decide) (h.2 c4))))))))))
set_option maxRecDepth 20000 in
theorem bk_168_62 {a1 : Nat} {x2 : Int32} {x3 : Int32} {x4 : Int32} {b0 : Nat} {b0z : Nat} {y1 : Int32} {y2 : Int32} (ha1 : is_F a1) (hb0 : sh_w N b0 = (2, b0z)) (gb0 : 10 ≤ b0)
    (h : vp_in y1 b0z ∧ vp_in x4 16 ∧ vp_in x4 16 ∧ mc_WP (168, 41, [.ref 76, .ref a1, .int x2, .int x3, .int (x4 + (1 : Int32))], [], ((mc_up (mc_up I b0 y1.toNatClampNeg y2) ((a1 + 2) + 1) x4.toNatClampNeg (((mc_up I b0 y1.toNatClampNeg y2) 81 x4.toNatClampNeg) &&& (Int32.ofNat 16777215))), J, rf_w r, sh_w N, n), (0, 0)) Q) :
    mc_WP (168, 62, [.ref 76, .ref a1, .int x2, .int x3, .int x4], [.int y2, .int y1, .ref b0], (I, J, rf_w r, sh_w N, n), (0, 0)) Q := by
  exact (by have g1 := h; have e2 : rf_w r a1 1 = (a1 + 2) := (wd_F (r := r) (N := N) ha1).2.2.1; have s3 : sh_w N (rf_w r a1 1) = (1, 6) := (by rw [e2]; exact (wd_F (r := r) (N := N) ha1).2.2.2.2.1); have k4 : is_P (rf_w r a1 1) := (by rw [e2]; exact (wd_F (r := r) (N := N) ha1).2.2.2.2.2); (try rw [← e2] at g1); exact (mc_WP.run (mc_adjs _) 9 (And.intro (wl_st hb0 g1.1 gb0) (And.intro ⟨(wd_F (r := r) (N := N) ha1).1, (wd_Z s3)⟩ (And.intro ⟨rfl, (show ¬ (81 : Nat) = 0 by decide)⟩ (And.intro (wl_ld rfl g1.2.1) (And.intro s3 (And.intro (by decide) (And.intro (by decide) (mc_inl (by have g5 := g1.2.2; have e6 : rf_w r (rf_w r a1 1) 0 = ((rf_w r a1 1) + 1) := (wd_P (r := r) (N := N) k4).2.1; have s7 : sh_w N (rf_w r (rf_w r a1 1) 0) = (2, 16) := (by rw [e6]; exact (wd_P (r := r) (N := N) k4).2.2); have ts7 : 10 ≤ rf_w r (rf_w r a1 1) 0 := (by rw [e6]; exact wd_tP k4 _); (try rw [← e6] at g5); exact (mc_WP.run (mc_adjs _) 8 (And.intro ⟨s3, (wd_Z s7)⟩ (And.intro (wl_st s7 g5.1 ts7) (mc_WP.run (mc_adjs _) 2 g5.2)))))))))))))))
set_option maxRecDepth 20000 in
theorem bk_168_93 {a1 : Nat} {x2 : Int32} {x3 : Int32} {x4 : Int32} (ha1 : is_F a1)
    (h : mc_WP (168, 96, [.ref 76, .ref a1, .int x2, .int x3, .int (0 : Int32)], [], (I, J, rf_w r, sh_w N, n), (0, 0)) Q) :
    mc_WP (168, 93, [.ref 76, .ref a1, .int x2, .int x3, .int x4], [], (I, J, rf_w r, sh_w N, n), (0, 0)) Q := by
  exact (mc_WP.run (mc_adjs _) 2 h)
set_option maxRecDepth 20000 in
theorem bk_168_96 {a1 : Nat} {x2 : Int32} {x3 : Int32} {x4 : Int32} (ha1 : is_F a1)
    (h : ((I a1 5) ≤ x4 → (Q (.inl (some (.int (I 76 9)))) (I, J, rf_w r, sh_w N, n))) ∧
        (¬ ((I a1 5) ≤ x4) →
        (∃ R : mc_Q, mc_WP (mc_en 182 [.ref 76, .ref a1, .int x4] (I, J, rf_w r, sh_w N, n)) R ∧ (∀ v t, R (.inl v) t → mc_WP (168, 112, [.ref 76, .ref a1, .int x2, .int x3, .int x4], v.toList ++ [], t, (0, 0)) Q) ∧ (∀ k t, R (.inr k) t → Q (.inr k) t)))) :
    mc_WP (168, 96, [.ref 76, .ref a1, .int x2, .int x3, .int x4], [], (I, J, rf_w r, sh_w N, n), (0, 0)) Q := by
  exact (mc_WP.run (mc_adjs _) 4 (And.intro (wd_F (r := r) (N := N) ha1).1 (And.intro (fun c4 => (mc_WP.run (mc_adjs _) 3 (And.intro rfl (h.1 c4)))) (fun c4 => (mc_WP.run (mc_adjs _) 4 (And.intro rfl (And.intro (by decide) (And.intro (by decide) (h.2 c4)))))))))
set_option maxRecDepth 20000 in
theorem bk_168_112 {a1 : Nat} {x2 : Int32} {x3 : Int32} {x4 : Int32} (ha1 : is_F a1)
    (h : mc_WP (168, 96, [.ref 76, .ref a1, .int x2, .int x3, .int (x4 + (1 : Int32))], [], (I, J, rf_w r, sh_w N, n), (0, 0)) Q) :
    mc_WP (168, 112, [.ref 76, .ref a1, .int x2, .int x3, .int x4], [], (I, J, rf_w r, sh_w N, n), (0, 0)) Q := by
  exact (mc_WP.run (mc_adjs _) 2 h)
end
