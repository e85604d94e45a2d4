/-! what the code does between its cut points (printed by blocks.py) -/
section
variable {I : Nat → Nat → Int32} {J : Nat → Nat → Int64} {r N n : Nat} {Q : mc_Q}
-- 43 cut()I inl<=6
set_option maxRecDepth 20000 in
theorem bk_43_0  (hr : is_R r)
    (h : Q (.inl (some (.int (I r 4)))) ((mc_up I r 4 (0 : Int32)), J, rf_w r, sh_w N, n)) :
    mc_WP (mc_en 43 [.ref 10] (I, J, rf_w r, sh_w N, n)) Q := by
  exact (mc_WP.run (mc_adjs _) 10 (And.intro ⟨rfl, (wd_R0 hr)⟩ (And.intro (wd_R (r := r) (N := N) hr).1 (And.intro ⟨rfl, (wd_R0 hr)⟩ (And.intro (wd_R (r := r) (N := N) hr).1 h)))))
-- 44 frames()I inl<=6
set_option maxRecDepth 20000 in
theorem bk_44_0  (hr : is_R r)
    (h : Q (.inl (some (.int (I r 4)))) (I, J, rf_w r, sh_w N, n)) :
    mc_WP (mc_en 44 [.ref 10] (I, J, rf_w r, sh_w N, n)) Q := by
  exact (mc_WP.run (mc_adjs _) 4 (And.intro ⟨rfl, (wd_R0 hr)⟩ (And.intro (wd_R (r := r) (N := N) hr).1 h)))
-- 45 write()I inl<=6
set_option maxRecDepth 20000 in
theorem bk_45_0  (hr : is_R r)
    (h : ∃ R : mc_Q, mc_WP (mc_en 144 [.ref 56, .ref r] ((mc_up I 54 1 (0 : Int32)), J, rf_w r, sh_w N, n)) R ∧ (∀ v t, R (.inl v) t → mc_WP (45, 19, [.ref 10], v.toList ++ [], t, (0, 0)) Q) ∧ (∀ k t, R (.inr k) t → Q (.inr k) t)) :
    mc_WP (mc_en 45 [.ref 10] (I, J, rf_w r, sh_w N, n)) Q := by
  exact (mc_WP.run (mc_adjs _) 9 (And.intro ⟨rfl, (show ¬ (54 : Nat) = 0 by decide)⟩ (And.intro rfl (And.intro ⟨rfl, (show ¬ (56 : Nat) = 0 by decide)⟩ (And.intro ⟨rfl, (wd_R0 hr)⟩ (And.intro rfl (And.intro (by decide) (And.intro (by decide) h))))))))
set_option maxRecDepth 20000 in
theorem bk_45_19
    (h : Q (.inl (some (.int (I 54 1)))) (I, J, rf_w r, sh_w N, n)) :
    mc_WP (45, 19, [.ref 10], [], (I, J, rf_w r, sh_w N, n), (0, 0)) Q := by
  exact (mc_WP.run (mc_adjs _) 4 (And.intro ⟨rfl, (show ¬ (54 : Nat) = 0 by decide)⟩ (And.intro rfl h)))
-- 46 feed(JI)I inl<=6
set_option maxRecDepth 20000 in
theorem bk_46_0 {x1 : Int64} {x3 : Int32}
    (h : (x3 < (1 : Int32) →
        (Q (.inl (some (.int (-1 : Int32)))) (I, J, rf_w r, sh_w N, n))) ∧
        (¬ (x3 < (1 : Int32)) →
        (((8 : Int32) < x3 →
          (Q (.inl (some (.int (-1 : Int32)))) (I, J, rf_w r, sh_w N, n))) ∧
          (¬ ((8 : Int32) < x3) →
          ((((I 54 1) + x3) ≤ (800 : Int32) →
            (mc_WP (46, 30, [.ref 10, .long x1, .null, .int x3, .int (0 : Int32)], [], (I, J, rf_w r, sh_w N, n), (0, 0)) Q)) ∧
            (¬ (((I 54 1) + x3) ≤ (800 : Int32)) →
            (Q (.inl (some (.int (-1 : Int32)))) (I, J, rf_w r, sh_w N, n)))))))) :
    mc_WP (mc_en 46 [.ref 10, .long x1, .int x3] (I, J, rf_w r, sh_w N, n)) Q := by
  exact (mc_WP.run (mc_adjs _) 4 (And.intro (by decide) (And.intro (by decide) (mc_inl (mc_WP.run (mc_adjs _) 3 (And.intro (fun c16 => (mc_WP.run (mc_adjs _) 2 (And.intro (by decide) (mc_WP.run (mc_adjs _) 1 (And.intro (fun _ => (mc_WP.run (mc_adjs _) 2 (h.1 c16))) (fun c => absurd (show (0 : Int32) = 0 by decide) c)))))) (fun c16 => (mc_WP.run (mc_adjs _) 3 (And.intro (fun c17 => (mc_WP.run (mc_adjs _) 2 (And.intro (by decide) (mc_WP.run (mc_adjs _) 1 (And.intro (fun _ => (mc_WP.run (mc_adjs _) 2 ((h.2 c16).1 c17))) (fun c => absurd (show (0 : Int32) = 0 by decide) c)))))) (fun c17 => (mc_WP.run (mc_adjs _) 2 (mc_WP.run (mc_adjs _) 1 (And.intro (by decide) (mc_WP.run (mc_adjs _) 1 (And.intro (fun c => absurd c (show ¬ ((1 : Int32) = 0) by decide)) (fun _ => (mc_WP.run (mc_adjs _) 7 (And.intro ⟨rfl, (show ¬ (54 : Nat) = 0 by decide)⟩ (And.intro rfl (And.intro (fun c18 => (mc_WP.run (mc_adjs _) 2 (((h.2 c16).2 c17).1 c18))) (fun c18 => (mc_WP.run (mc_adjs _) 2 (((h.2 c16).2 c17).2 c18)))))))))))))))))))))))
set_option maxRecDepth 20000 in
theorem bk_46_30 {x1 : Int64} {x3 : Int32} {x4 : Int32}
    (h : (x3 ≤ x4 → (Q (.inl (some (.int (I 54 1)))) (I, J, rf_w r, sh_w N, n))) ∧
        (¬ (x3 ≤ x4) →
        (((Int32.ofNat 800) ≤ (I 54 1) →
          (mc_WP (46, 30, [.ref 10, .long x1, .null, .int x3, .int (x4 + (1 : Int32))], [], (I, J, rf_w r, sh_w N, n), (0, 0)) Q)) ∧
          (¬ ((Int32.ofNat 800) ≤ (I 54 1)) →
          (vp_in (I 54 1) 800 ∧ mc_WP (46, 30, [.ref 10, .long x1, .null, .int x3, .int (x4 + (1 : Int32))], [], ((mc_up (mc_up I 55 (I 54 1).toNatClampNeg ((((x1.toUInt64 >>> (((8 : Int32) * x4).toInt64.toUInt64 &&& Int64.toUInt64 63)).toInt64).toInt32) &&& (255 : Int32))) 54 1 ((I 54 1) + (1 : Int32))), J, rf_w r, sh_w N, n), (0, 0)) Q))))) :
    mc_WP (46, 30, [.ref 10, .long x1, .null, .int x3, .int x4], [], (I, J, rf_w r, sh_w N, n), (0, 0)) Q := by
  exact (mc_WP.run (mc_adjs _) 3 (And.intro (fun c9 => (mc_WP.run (mc_adjs _) 4 (And.intro ⟨rfl, (show ¬ (54 : Nat) = 0 by decide)⟩ (And.intro rfl (h.1 c9))))) (fun c9 => (mc_WP.run (mc_adjs _) 11 (And.intro ⟨rfl, (show ¬ (54 : Nat) = 0 by decide)⟩ (And.intro rfl (And.intro (by decide) (And.intro (by decide) (mc_inl (mc_WP.run (mc_adjs _) 6 (And.intro rfl (And.intro ⟨rfl, (show ¬ (55 : Nat) = 0 by decide)⟩ (And.intro (wl_len rfl (by decide) (by decide)) (And.intro (fun c10 => (mc_WP.run (mc_adjs _) 1 (mc_WP.run (mc_adjs _) 2 ((h.2 c9).1 c10)))) (fun c10 => (mc_WP.run (mc_adjs _) 13 (And.intro ⟨rfl, (show ¬ (55 : Nat) = 0 by decide)⟩ (And.intro rfl (And.intro (wl_st rfl ((h.2 c9).2 c10).1 (show 10 ≤ (55 : Nat) by decide)) (And.intro rfl (And.intro rfl (mc_WP.run (mc_adjs _) 2 ((h.2 c9).2 c10).2))))))))))))))))))))))
-- 47 wipe()I inl<=6
set_option maxRecDepth 20000 in
theorem bk_47_0
    (h : Q (.inl (some (.int (I 54 1)))) ((mc_up I 54 1 (0 : Int32)), J, rf_w r, sh_w N, n)) :
    mc_WP (mc_en 47 [.ref 10] (I, J, rf_w r, sh_w N, n)) Q := by
  exact (mc_WP.run (mc_adjs _) 10 (And.intro ⟨rfl, (show ¬ (54 : Nat) = 0 by decide)⟩ (And.intro rfl (And.intro ⟨rfl, (show ¬ (54 : Nat) = 0 by decide)⟩ (And.intro rfl h)))))
-- 48 spoil(II)Z inl<=6
set_option maxRecDepth 20000 in
theorem bk_48_0 {x1 : Int32} {x2 : Int32}
    (h : (x1 < 0 → (Q (.inl (some (.int (0 : Int32)))) (I, J, rf_w r, sh_w N, n))) ∧
        (¬ (x1 < 0) →
        (((I 54 1) ≤ x1 → (Q (.inl (some (.int (0 : Int32)))) (I, J, rf_w r, sh_w N, n))) ∧
          (¬ ((I 54 1) ≤ x1) →
          (vp_in x1 800 ∧ Q (.inl (some (.int (1 : Int32)))) ((mc_up I 55 x1.toNatClampNeg (x2 &&& (255 : Int32))), J, rf_w r, sh_w N, n)))))) :
    mc_WP (mc_en 48 [.ref 10, .int x1, .int x2] (I, J, rf_w r, sh_w N, n)) Q := by
  exact (mc_WP.run (mc_adjs _) 4 (And.intro ⟨rfl, (show ¬ (54 : Nat) = 0 by decide)⟩ (And.intro rfl (And.intro (by decide) (And.intro (by decide) (mc_inl (mc_WP.run (mc_adjs _) 2 (And.intro (fun c14 => (mc_WP.run (mc_adjs _) 2 (And.intro (by decide) (mc_WP.run (mc_adjs _) 1 (And.intro (fun c => absurd c (show ¬ (¬ (0 : Int32) = 0) by decide)) (fun _ => (mc_WP.run (mc_adjs _) 2 (And.intro (by decide) (h.1 c14))))))))) (fun c14 => (mc_WP.run (mc_adjs _) 4 (And.intro rfl (And.intro (fun c15 => (mc_WP.run (mc_adjs _) 2 (And.intro (by decide) (mc_WP.run (mc_adjs _) 1 (And.intro (fun c => absurd c (show ¬ (¬ (0 : Int32) = 0) by decide)) (fun _ => (mc_WP.run (mc_adjs _) 2 (And.intro (by decide) ((h.2 c14).1 c15))))))))) (fun c15 => (mc_WP.run (mc_adjs _) 2 (mc_WP.run (mc_adjs _) 1 (And.intro (by decide) (mc_WP.run (mc_adjs _) 1 (And.intro (fun _ => (mc_WP.run (mc_adjs _) 10 (And.intro ⟨rfl, (show ¬ (54 : Nat) = 0 by decide)⟩ (And.intro ⟨rfl, (show ¬ (55 : Nat) = 0 by decide)⟩ (And.intro (wl_st rfl ((h.2 c14).2 c15).1 (show 10 ≤ (55 : Nat) by decide)) (And.intro (by decide) ((h.2 c14).2 c15).2)))))) (fun c => absurd (show ¬ (1 : Int32) = 0 by decide) c)))))))))))))))))))
-- 49 byteAt(I)I inl<=6
set_option maxRecDepth 20000 in
theorem bk_49_0 {x1 : Int32}
    (h : (x1 < 0 →
        (Q (.inl (some (.int (-1 : Int32)))) (I, J, rf_w r, sh_w N, n))) ∧
        (¬ (x1 < 0) →
        (((I 54 1) ≤ x1 →
          (Q (.inl (some (.int (-1 : Int32)))) (I, J, rf_w r, sh_w N, n))) ∧
          (¬ ((I 54 1) ≤ x1) →
          (vp_in x1 800 ∧ Q (.inl (some (.int (I 55 x1.toNatClampNeg)))) (I, J, rf_w r, sh_w N, n)))))) :
    mc_WP (mc_en 49 [.ref 10, .int x1] (I, J, rf_w r, sh_w N, n)) Q := by
  exact (mc_WP.run (mc_adjs _) 4 (And.intro ⟨rfl, (show ¬ (54 : Nat) = 0 by decide)⟩ (And.intro rfl (And.intro (by decide) (And.intro (by decide) (mc_inl (mc_WP.run (mc_adjs _) 2 (And.intro (fun c15 => (mc_WP.run (mc_adjs _) 2 (And.intro (by decide) (mc_WP.run (mc_adjs _) 1 (And.intro (fun _ => (mc_WP.run (mc_adjs _) 2 (h.1 c15))) (fun c => absurd (show (0 : Int32) = 0 by decide) c)))))) (fun c15 => (mc_WP.run (mc_adjs _) 4 (And.intro rfl (And.intro (fun c16 => (mc_WP.run (mc_adjs _) 2 (And.intro (by decide) (mc_WP.run (mc_adjs _) 1 (And.intro (fun _ => (mc_WP.run (mc_adjs _) 2 ((h.2 c15).1 c16))) (fun c => absurd (show (0 : Int32) = 0 by decide) c)))))) (fun c16 => (mc_WP.run (mc_adjs _) 2 (mc_WP.run (mc_adjs _) 1 (And.intro (by decide) (mc_WP.run (mc_adjs _) 1 (And.intro (fun c => absurd c (show ¬ ((1 : Int32) = 0) by decide)) (fun _ => (mc_WP.run (mc_adjs _) 6 (And.intro ⟨rfl, (show ¬ (54 : Nat) = 0 by decide)⟩ (And.intro ⟨rfl, (show ¬ (55 : Nat) = 0 by decide)⟩ (And.intro (wl_ld rfl ((h.2 c15).2 c16).1) (mc_WP.run (mc_adjs _) 1 ((h.2 c15).2 c16).2))))))))))))))))))))))))
-- 50 ownPalette(I)LPaletteReel$Palette; inl<=6
set_option maxRecDepth 20000 in
theorem bk_50_0 {x1 : Int32} (hr : is_R r)
    (h : (¬ x1 = (-1 : Int32) →
        (vp_in x1 4 ∧ Q (.inl (some (.ref ((r + 4 + 4 * x1.toNatClampNeg) + 2)))) (I, J, rf_w r, sh_w N, n))) ∧
        (¬ (¬ x1 = (-1 : Int32)) → (Q (.inl (some (.ref (r + 1)))) (I, J, rf_w r, sh_w N, n)))) :
    mc_WP (mc_en 50 [.ref 10, .int x1] (I, J, rf_w r, sh_w N, n)) Q := by
  exact (mc_WP.run (mc_adjs _) 3 (And.intro (fun c17 => (by have g2 := (h.1 c17); have e3 : rf_w r r 1 = (r + 3) := (wd_R (r := r) (N := N) hr).2.2.1; have s4 : sh_w N (rf_w r r 1) = (3, 4) := (by rw [e3]; exact (wd_R (r := r) (N := N) hr).2.2.2.2.2); (try rw [← e3] at g2); have f5 : vp_in x1 4 := g2.1; have e6 : rf_w r (rf_w r r 1) x1.toNatClampNeg = (r + 4 + 4 * x1.toNatClampNeg) := (by rw [e3]; exact (wd_A (r := r) (N := N) hr f5).1); have s7 : sh_w N (rf_w r (rf_w r r 1) x1.toNatClampNeg) = (1, 4) := (by rw [e6]; exact (wd_A (r := r) (N := N) hr f5).2.1); have k8 : is_F (rf_w r (rf_w r r 1) x1.toNatClampNeg) := (by rw [e6]; exact (wd_A (r := r) (N := N) hr f5).2.2); (try rw [← e6] at g2); have e9 : rf_w r (rf_w r (rf_w r r 1) x1.toNatClampNeg) 1 = ((rf_w r (rf_w r r 1) x1.toNatClampNeg) + 2) := (wd_F (r := r) (N := N) k8).2.2.1; have s10 : sh_w N (rf_w r (rf_w r (rf_w r r 1) x1.toNatClampNeg) 1) = (1, 6) := (by rw [e9]; exact (wd_F (r := r) (N := N) k8).2.2.2.2.1); have k11 : is_P (rf_w r (rf_w r (rf_w r r 1) x1.toNatClampNeg) 1) := (by rw [e9]; exact (wd_F (r := r) (N := N) k8).2.2.2.2.2); (try rw [← e9] at g2); exact (mc_WP.run (mc_adjs _) 7 (And.intro ⟨rfl, (wd_R0 hr)⟩ (And.intro ⟨(wd_R (r := r) (N := N) hr).1, (wd_Z s4)⟩ (And.intro (wl_la s4 g2.1 (wd_Z s7)) (And.intro ⟨s7, (wd_Z s10)⟩ g2.2))))))) (fun c17 => (by have g12 := (h.2 c17); have e13 : rf_w r r 0 = (r + 1) := (wd_R (r := r) (N := N) hr).2.1; have s14 : sh_w N (rf_w r r 0) = (1, 6) := (by rw [e13]; exact (wd_R (r := r) (N := N) hr).2.2.2.1); have k15 : is_P (rf_w r r 0) := (by rw [e13]; exact (wd_R (r := r) (N := N) hr).2.2.2.2.1); (try rw [← e13] at g12); exact (mc_WP.run (mc_adjs _) 4 (And.intro ⟨rfl, (wd_R0 hr)⟩ (And.intro ⟨(wd_R (r := r) (N := N) hr).1, (wd_Z s14)⟩ (mc_WP.run (mc_adjs _) 1 g12))))))))
-- 51 isWithin(III)Z inl<=6
set_option maxRecDepth 20000 in
theorem bk_51_0 {x0 : Int32} {x1 : Int32} {x2 : Int32}
    (h : (x0 < x1 → (Q (.inl (some (.int (0 : Int32)))) (I, J, rf_w r, sh_w N, n))) ∧
        (¬ (x0 < x1) →
        ((x2 < x0 → (Q (.inl (some (.int (0 : Int32)))) (I, J, rf_w r, sh_w N, n))) ∧
          (¬ (x2 < x0) → (Q (.inl (some (.int (1 : Int32)))) (I, J, rf_w r, sh_w N, n)))))) :
    mc_WP (mc_en 51 [.int x0, .int x1, .int x2] (I, J, rf_w r, sh_w N, n)) Q := by
  exact (mc_WP.run (mc_adjs _) 3 (And.intro (fun c7 => (mc_WP.run (mc_adjs _) 2 (And.intro (by decide) (h.1 c7)))) (fun c7 => (mc_WP.run (mc_adjs _) 3 (And.intro (fun c8 => (mc_WP.run (mc_adjs _) 2 (And.intro (by decide) ((h.2 c7).1 c8)))) (fun c8 => (mc_WP.run (mc_adjs _) 2 (mc_WP.run (mc_adjs _) 1 (And.intro (by decide) ((h.2 c7).2 c8))))))))))
-- 52 isInside(IIII)Z inl<=6
set_option maxRecDepth 20000 in
theorem bk_52_0 {x0 : Int32} {x1 : Int32} {x2 : Int32} {x3 : Int32}
    (h : (x0 < 0 → (Q (.inl (some (.int (0 : Int32)))) (I, J, rf_w r, sh_w N, n))) ∧
        (¬ (x0 < 0) →
        ((x2 ≤ x0 → (Q (.inl (some (.int (0 : Int32)))) (I, J, rf_w r, sh_w N, n))) ∧
          (¬ (x2 ≤ x0) →
          ((x1 < 0 → (Q (.inl (some (.int (0 : Int32)))) (I, J, rf_w r, sh_w N, n))) ∧
            (¬ (x1 < 0) →
            ((x3 ≤ x1 → (Q (.inl (some (.int (0 : Int32)))) (I, J, rf_w r, sh_w N, n))) ∧
              (¬ (x3 ≤ x1) → (Q (.inl (some (.int (1 : Int32)))) (I, J, rf_w r, sh_w N, n)))))))))) :
    mc_WP (mc_en 52 [.int x0, .int x1, .int x2, .int x3] (I, J, rf_w r, sh_w N, n)) Q := by
  exact (mc_WP.run (mc_adjs _) 2 (And.intro (fun c11 => (mc_WP.run (mc_adjs _) 2 (And.intro (by decide) (h.1 c11)))) (fun c11 => (mc_WP.run (mc_adjs _) 3 (And.intro (fun c12 => (mc_WP.run (mc_adjs _) 2 (And.intro (by decide) ((h.2 c11).1 c12)))) (fun c12 => (mc_WP.run (mc_adjs _) 2 (And.intro (fun c13 => (mc_WP.run (mc_adjs _) 2 (And.intro (by decide) (((h.2 c11).2 c12).1 c13)))) (fun c13 => (mc_WP.run (mc_adjs _) 3 (And.intro (fun c14 => (mc_WP.run (mc_adjs _) 2 (And.intro (by decide) ((((h.2 c11).2 c12).2 c13).1 c14)))) (fun c14 => (mc_WP.run (mc_adjs _) 2 (mc_WP.run (mc_adjs _) 1 (And.intro (by decide) ((((h.2 c11).2 c12).2 c13).2 c14))))))))))))))))
-- 53 placeOf(II)I inl<=6
set_option maxRecDepth 20000 in
theorem bk_53_0 {x0 : Int32} {x1 : Int32}
    (h : Q (.inl (some (.int ((x1 * (8 : Int32)) + x0)))) (I, J, rf_w r, sh_w N, n)) :
    mc_WP (mc_en 53 [.int x0, .int x1] (I, J, rf_w r, sh_w N, n)) Q := by
  exact (mc_WP.run (mc_adjs _) 6 h)
-- 54 partOf(II)I inl<=6
set_option maxRecDepth 20000 in
theorem bk_54_0 {x0 : Int32} {x1 : Int32}
    (h : Q (.inl (some (.int ((x0 >>> (((8 : Int32) * ((2 : Int32) - x1)) &&& 31)) &&& (255 : Int32))))) (I, J, rf_w r, sh_w N, n)) :
    mc_WP (mc_en 54 [.int x0, .int x1] (I, J, rf_w r, sh_w N, n)) Q := by
  exact (mc_WP.run (mc_adjs _) 10 h)
-- 55 paletteBits(I)I inl<=6
set_option maxRecDepth 20000 in
theorem bk_55_0 {x0 : Int32}
    (h : mc_WP (55, 2, [.int x0, .int (1 : Int32)], [], (I, J, rf_w r, sh_w N, n), (0, 0)) Q) :
    mc_WP (mc_en 55 [.int x0] (I, J, rf_w r, sh_w N, n)) Q := by
  exact (mc_WP.run (mc_adjs _) 2 h)
set_option maxRecDepth 20000 in
theorem bk_55_2 {x0 : Int32} {x1 : Int32}
    (h : ((4 : Int32) ≤ x1 → (Q (.inl (some (.int x1))) (I, J, rf_w r, sh_w N, n))) ∧
        (¬ ((4 : Int32) ≤ x1) →
        ((x0 ≤ ((1 : Int32) <<< (x1 &&& 31)) → (Q (.inl (some (.int x1))) (I, J, rf_w r, sh_w N, n))) ∧
          (¬ (x0 ≤ ((1 : Int32) <<< (x1 &&& 31))) →
          (mc_WP (55, 2, [.int x0, .int (x1 + (1 : Int32))], [], (I, J, rf_w r, sh_w N, n), (0, 0)) Q))))) :
    mc_WP (55, 2, [.int x0, .int x1], [], (I, J, rf_w r, sh_w N, n), (0, 0)) Q := by
  exact (mc_WP.run (mc_adjs _) 3 (And.intro (fun c6 => (mc_WP.run (mc_adjs _) 2 (h.1 c6))) (fun c6 => (mc_WP.run (mc_adjs _) 5 (And.intro (fun c7 => (mc_WP.run (mc_adjs _) 2 ((h.2 c6).1 c7))) (fun c7 => (mc_WP.run (mc_adjs _) 2 ((h.2 c6).2 c7))))))))
-- 56 thrown()I inl<=6
set_option maxRecDepth 20000 in
theorem bk_56_0
    (h : Q (.inl (some (.int (I 84 0)))) (I, J, rf_w r, sh_w N, n)) :
    mc_WP (mc_en 56 [.ref 84] (I, J, rf_w r, sh_w N, n)) Q := by
  exact (mc_WP.run (mc_adjs _) 3 (And.intro rfl h))
-- 57 outside(III)Z inl<=6
set_option maxRecDepth 20000 in
theorem bk_57_0 {x0 : Int32} {x1 : Int32} {x2 : Int32}
    (h : (x0 < x1 → (Q (.inl (some (.int (1 : Int32)))) (I, J, rf_w r, sh_w N, n))) ∧
        (¬ (x0 < x1) →
        ((x0 ≤ x2 → (Q (.inl (some (.int (0 : Int32)))) (I, J, rf_w r, sh_w N, n))) ∧
          (¬ (x0 ≤ x2) → (Q (.inl (some (.int (1 : Int32)))) (I, J, rf_w r, sh_w N, n)))))) :
    mc_WP (mc_en 57 [.int x0, .int x1, .int x2] (I, J, rf_w r, sh_w N, n)) Q := by
  exact (mc_WP.run (mc_adjs _) 3 (And.intro (fun c8 => (mc_WP.run (mc_adjs _) 2 (mc_WP.run (mc_adjs _) 1 (And.intro (by decide) (h.1 c8))))) (fun c8 => (mc_WP.run (mc_adjs _) 3 (And.intro (fun c9 => (mc_WP.run (mc_adjs _) 2 (And.intro (by decide) ((h.2 c8).1 c9)))) (fun c9 => (mc_WP.run (mc_adjs _) 2 (mc_WP.run (mc_adjs _) 1 (And.intro (by decide) ((h.2 c8).2 c9))))))))))
-- 58 isFrame(I)Z inl<=6
set_option maxRecDepth 20000 in
theorem bk_58_0 {x1 : Int32}
    (h : (x1 < 0 → (Q (.inl (some (.int (0 : Int32)))) (I, J, rf_w r, sh_w N, n))) ∧
        (¬ (x1 < 0) →
        (((I 84 1) ≤ x1 → (Q (.inl (some (.int (0 : Int32)))) (I, J, rf_w r, sh_w N, n))) ∧
          (¬ ((I 84 1) ≤ x1) → (Q (.inl (some (.int (1 : Int32)))) (I, J, rf_w r, sh_w N, n)))))) :
    mc_WP (mc_en 58 [.ref 84, .int x1] (I, J, rf_w r, sh_w N, n)) Q := by
  exact (mc_WP.run (mc_adjs _) 2 (And.intro (fun c7 => (mc_WP.run (mc_adjs _) 2 (And.intro (by decide) (h.1 c7)))) (fun c7 => (mc_WP.run (mc_adjs _) 4 (And.intro rfl (And.intro (fun c8 => (mc_WP.run (mc_adjs _) 2 (And.intro (by decide) ((h.2 c7).1 c8)))) (fun c8 => (mc_WP.run (mc_adjs _) 2 (mc_WP.run (mc_adjs _) 1 (And.intro (by decide) ((h.2 c7).2 c8)))))))))))
-- 59 clearCanvas()V inl<=6
set_option maxRecDepth 20000 in
theorem bk_59_0
    (h : mc_WP (59, 2, [.ref 84, .int (0 : Int32)], [], (I, J, rf_w r, sh_w N, n), (0, 0)) Q) :
    mc_WP (mc_en 59 [.ref 84] (I, J, rf_w r, sh_w N, n)) Q := by
  exact (mc_WP.run (mc_adjs _) 2 h)
set_option maxRecDepth 20000 in
theorem bk_59_2 {x1 : Int32}
    (h : ((64 : Int32) ≤ x1 → (Q (.inl none) (I, J, rf_w r, sh_w N, n))) ∧
        (¬ ((64 : Int32) ≤ x1) →
        (vp_in x1 64 ∧ mc_WP (59, 2, [.ref 84, .int (x1 + (1 : Int32))], [], ((mc_up I 93 x1.toNatClampNeg (-1 : Int32)), J, rf_w r, sh_w N, n), (0, 0)) Q))) :
    mc_WP (59, 2, [.ref 84, .int x1], [], (I, J, rf_w r, sh_w N, n), (0, 0)) Q := by
  exact (mc_WP.run (mc_adjs _) 3 (And.intro (fun c4 => (mc_WP.run (mc_adjs _) 1 (h.1 c4))) (fun c4 => (mc_WP.run (mc_adjs _) 7 (And.intro ⟨rfl, (show ¬ (93 : Nat) = 0 by decide)⟩ (And.intro (wl_st rfl (h.2 c4).1 (show 10 ≤ (93 : Nat) by decide)) (h.2 c4).2))))))
-- 60 bitsOf(I)I inl<=6
set_option maxRecDepth 20000 in
theorem bk_60_0 {x1 : Int32}
    (h : vp_in (((9 : Int32) * (x1 + (1 : Int32))) + (4 : Int32)) 45 ∧ ((I 85 (((9 : Int32) * (x1 + (1 : Int32))) + (4 : Int32)).toNatClampNeg) ≤ 0 → (Q (.inl (some (.int (I 85 4)))) (I, J, rf_w r, sh_w N, n))) ∧
        (¬ ((I 85 (((9 : Int32) * (x1 + (1 : Int32))) + (4 : Int32)).toNatClampNeg) ≤ 0) →
        (Q (.inl (some (.int (I 85 (((9 : Int32) * (x1 + (1 : Int32))) + (4 : Int32)).toNatClampNeg)))) (I, J, rf_w r, sh_w N, n)))) :
    mc_WP (mc_en 60 [.ref 84, .int x1] (I, J, rf_w r, sh_w N, n)) Q := by
  exact (mc_WP.run (mc_adjs _) 13 (And.intro ⟨rfl, (show ¬ (85 : Nat) = 0 by decide)⟩ (And.intro (wl_ld rfl h.1) (And.intro (fun c5 => (mc_WP.run (mc_adjs _) 5 (And.intro ⟨rfl, (show ¬ (85 : Nat) = 0 by decide)⟩ (And.intro (wl_ld rfl (show vp_in (4 : Int32) 45 by unfold vp_in; decide)) (h.2.1 c5))))) (fun c5 => (mc_WP.run (mc_adjs _) 2 (mc_WP.run (mc_adjs _) 1 (h.2.2 c5))))))))
-- 61 greatest(I)I inl<=6
set_option maxRecDepth 20000 in
theorem bk_61_0 {x1 : Int32}
    (h : vp_in (((9 : Int32) * (x1 + (1 : Int32))) + (7 : Int32)) 45 ∧ mc_WP (61, 17, [.ref 84, .int x1, .int (I 85 (((9 : Int32) * (x1 + (1 : Int32))) + (7 : Int32)).toNatClampNeg), .int (0 : Int32), .null, .null], [], (I, J, rf_w r, sh_w N, n), (0, 0)) Q) :
    mc_WP (mc_en 61 [.ref 84, .int x1] (I, J, rf_w r, sh_w N, n)) Q := by
  exact (mc_WP.run (mc_adjs _) 13 (And.intro ⟨rfl, (show ¬ (85 : Nat) = 0 by decide)⟩ (And.intro (wl_ld rfl h.1) h.2)))
set_option maxRecDepth 20000 in
theorem bk_61_17 {x1 : Int32} {x2 : Int32} {x3 : Int32} {x4 : Value} {x5 : Value}
    (h : vp_in (((9 : Int32) * (x1 + (1 : Int32))) + (3 : Int32)) 45 ∧ ((I 85 (((9 : Int32) * (x1 + (1 : Int32))) + (3 : Int32)).toNatClampNeg) ≤ x3 → (Q (.inl (some (.int x2))) (I, J, rf_w r, sh_w N, n))) ∧
        (¬ ((I 85 (((9 : Int32) * (x1 + (1 : Int32))) + (3 : Int32)).toNatClampNeg) ≤ x3) →
        (mc_WP (61, 37, [.ref 84, .int x1, .int x2, .int x3, .int (0 : Int32), x5], [], (I, J, rf_w r, sh_w N, n), (0, 0)) Q))) :
    mc_WP (61, 17, [.ref 84, .int x1, .int x2, .int x3, x4, x5], [], (I, J, rf_w r, sh_w N, n), (0, 0)) Q := by
  exact (mc_WP.run (mc_adjs _) 12 (And.intro ⟨rfl, (show ¬ (85 : Nat) = 0 by decide)⟩ (And.intro (wl_ld rfl h.1) (And.intro (fun c4 => (mc_WP.run (mc_adjs _) 2 (h.2.1 c4))) (fun c4 => (mc_WP.run (mc_adjs _) 2 (h.2.2 c4)))))))
set_option maxRecDepth 20000 in
theorem bk_61_37 {x1 : Int32} {x2 : Int32} {x3 : Int32} {x4 : Int32} {x5 : Value}
    (h : vp_in (((9 : Int32) * (x1 + (1 : Int32))) + (2 : Int32)) 45 ∧ ((I 85 (((9 : Int32) * (x1 + (1 : Int32))) + (2 : Int32)).toNatClampNeg) ≤ x4 →
        (mc_WP (61, 17, [.ref 84, .int x1, .int x2, .int (x3 + (1 : Int32)), .int x4, x5], [], (I, J, rf_w r, sh_w N, n), (0, 0)) Q)) ∧
        (¬ ((I 85 (((9 : Int32) * (x1 + (1 : Int32))) + (2 : Int32)).toNatClampNeg) ≤ x4) →
        (vp_in ((((64 : Int32) * x1) + ((8 : Int32) * x3)) + x4) 256 ∧ ((I 87 ((((64 : Int32) * x1) + ((8 : Int32) * x3)) + x4).toNatClampNeg) ≤ x2 →
          (mc_WP (61, 37, [.ref 84, .int x1, .int x2, .int x3, .int (x4 + (1 : Int32)), .int (I 87 ((((64 : Int32) * x1) + ((8 : Int32) * x3)) + x4).toNatClampNeg)], [], (I, J, rf_w r, sh_w N, n), (0, 0)) Q)) ∧
          (¬ ((I 87 ((((64 : Int32) * x1) + ((8 : Int32) * x3)) + x4).toNatClampNeg) ≤ x2) →
          (mc_WP (61, 37, [.ref 84, .int x1, .int (I 87 ((((64 : Int32) * x1) + ((8 : Int32) * x3)) + x4).toNatClampNeg), .int x3, .int (x4 + (1 : Int32)), .int (I 87 ((((64 : Int32) * x1) + ((8 : Int32) * x3)) + x4).toNatClampNeg)], [], (I, J, rf_w r, sh_w N, n), (0, 0)) Q))))) :
    mc_WP (61, 37, [.ref 84, .int x1, .int x2, .int x3, .int x4, x5], [], (I, J, rf_w r, sh_w N, n), (0, 0)) Q := by
  exact (mc_WP.run (mc_adjs _) 12 (And.intro ⟨rfl, (show ¬ (85 : Nat) = 0 by decide)⟩ (And.intro (wl_ld rfl h.1) (And.intro (fun c7 => (mc_WP.run (mc_adjs _) 2 (h.2.1 c7))) (fun c7 => (mc_WP.run (mc_adjs _) 16 (And.intro ⟨rfl, (show ¬ (87 : Nat) = 0 by decide)⟩ (And.intro (wl_ld rfl (h.2.2 c7).1) (And.intro (fun c8 => (mc_WP.run (mc_adjs _) 4 ((h.2.2 c7).2.1 c8))) (fun c8 => (mc_WP.run (mc_adjs _) 2 (mc_WP.run (mc_adjs _) 3 ((h.2.2 c7).2.2 c8)))))))))))))
-- 62 suits(II)Z joins inl<=6
set_option maxRecDepth 20000 in
theorem bk_62_0 {x1 : Int32} {x2 : Int32}
    (h : mc_WP (62, 5, [.ref 84, .int x1, .int x2, .int (1 : Int32), .int (0 : Int32), .null, .null], [], (I, J, rf_w r, sh_w N, n), (0, 0)) Q) :
    mc_WP (mc_en 62 [.ref 84, .int x1, .int x2] (I, J, rf_w r, sh_w N, n)) Q := by
  exact (mc_WP.run (mc_adjs _) 4 h)
set_option maxRecDepth 20000 in
theorem bk_62_5 {x1 : Int32} {x2 : Int32} {x3 : Int32} {x4 : Int32} {x5 : Value} {x6 : Value}
    (h : ((I 84 1) ≤ x4 →
        ((x3 = 0 ∨ x3 = 1) ∧ Q (.inl (some (.int x3))) (I, J, rf_w r, sh_w N, n))) ∧
        (¬ ((I 84 1) ≤ x4) →
        ((0 ≤ x1 →
          ((¬ x4 = x1 →
            (mc_WP (62, 54, [.ref 84, .int x1, .int x2, .int x3, .int x4, x5, x6], [.int (0 : Int32)], (I, J, rf_w r, sh_w N, n), (0, 0)) Q)) ∧
            (¬ (¬ x4 = x1) →
            (mc_WP (62, 54, [.ref 84, .int x1, .int x2, .int x3, .int x4, x5, x6], [.int (1 : Int32)], (I, J, rf_w r, sh_w N, n), (0, 0)) Q)))) ∧
          (¬ (0 ≤ x1) →
          (vp_in (((9 : Int32) * (x4 + (1 : Int32))) + (4 : Int32)) 45 ∧ (¬ (I 85 (((9 : Int32) * (x4 + (1 : Int32))) + (4 : Int32)).toNatClampNeg) = 0 →
            (mc_WP (62, 54, [.ref 84, .int x1, .int x2, .int x3, .int x4, x5, x6], [.int (0 : Int32)], (I, J, rf_w r, sh_w N, n), (0, 0)) Q)) ∧
            (¬ (¬ (I 85 (((9 : Int32) * (x4 + (1 : Int32))) + (4 : Int32)).toNatClampNeg) = 0) →
            (mc_WP (62, 54, [.ref 84, .int x1, .int x2, .int x3, .int x4, x5, x6], [.int (1 : Int32)], (I, J, rf_w r, sh_w N, n), (0, 0)) Q))))))) :
    mc_WP (62, 5, [.ref 84, .int x1, .int x2, .int x3, .int x4, x5, x6], [], (I, J, rf_w r, sh_w N, n), (0, 0)) Q := by
  exact (mc_WP.run (mc_adjs _) 4 (And.intro rfl (And.intro (fun c10 => (mc_WP.run (mc_adjs _) 2 (h.1 c10))) (fun c10 => (mc_WP.run (mc_adjs _) 2 (And.intro (fun c11 => (mc_WP.run (mc_adjs _) 3 (And.intro (fun c12 => (mc_WP.run (mc_adjs _) 1 (((h.2 c10).1 c11).1 c12))) (fun c12 => (mc_WP.run (mc_adjs _) 2 (((h.2 c10).1 c11).2 c12)))))) (fun c11 => (mc_WP.run (mc_adjs _) 11 (And.intro ⟨rfl, (show ¬ (85 : Nat) = 0 by decide)⟩ (And.intro (wl_ld rfl ((h.2 c10).2 c11).1) (And.intro (fun c13 => (mc_WP.run (mc_adjs _) 2 (((h.2 c10).2 c11).2.1 c13))) (fun c13 => (mc_WP.run (mc_adjs _) 2 (((h.2 c10).2 c11).2.2 c13))))))))))))))
set_option maxRecDepth 20000 in
theorem bk_62_54 {x1 : Int32} {x2 : Int32} {x3 : Int32} {x4 : Int32} {x5 : Value} {x6 : Value} {y0 : Int32}
    (h : (x2 ≤ 0 →
        (mc_WP (62, 70, [.ref 84, .int x1, .int x2, .int x3, .int x4, .int y0, x6], [.int (I 85 4)], (I, J, rf_w r, sh_w N, n), (0, 0)) Q)) ∧
        (¬ (x2 ≤ 0) →
        (mc_WP (62, 70, [.ref 84, .int x1, .int x2, .int x3, .int x4, .int y0, x6], [.int x2], (I, J, rf_w r, sh_w N, n), (0, 0)) Q))) :
    mc_WP (62, 54, [.ref 84, .int x1, .int x2, .int x3, .int x4, x5, x6], [.int y0], (I, J, rf_w r, sh_w N, n), (0, 0)) Q := by
  exact (mc_WP.run (mc_adjs _) 3 (And.intro (fun c4 => (mc_WP.run (mc_adjs _) 4 (And.intro ⟨rfl, (show ¬ (85 : Nat) = 0 by decide)⟩ (And.intro (wl_ld rfl (show vp_in (4 : Int32) 45 by unfold vp_in; decide)) (h.1 c4))))) (fun c4 => (mc_WP.run (mc_adjs _) 2 (h.2 c4)))))
set_option maxRecDepth 20000 in
theorem bk_62_70 {x1 : Int32} {x2 : Int32} {x3 : Int32} {x4 : Int32} {x5 : Int32} {x6 : Value} {y0 : Int32}
    (h : (x3 = 0 →
        (mc_WP (62, 98, [.ref 84, .int x1, .int x2, .int x3, .int x4, .int x5, .int y0], [], (I, J, rf_w r, sh_w N, n), (0, 0)) Q)) ∧
        (¬ (x3 = 0) →
        ((x5 = 0 →
          (mc_WP (62, 94, [.ref 84, .int x1, .int x2, .int x3, .int x4, .int x5, .int y0], [], (I, J, rf_w r, sh_w N, n), (0, 0)) Q)) ∧
          (¬ (x5 = 0) →
          (∃ R : mc_Q, mc_WP (mc_en 61 [.ref 84, .int x4] (I, J, rf_w r, sh_w N, n)) R ∧ (∀ v t, R (.inl v) t → mc_WP (62, 87, [.ref 84, .int x1, .int x2, .int x3, .int x4, .int x5, .int y0], v.toList ++ [], t, (0, 0)) Q) ∧ (∀ k t, R (.inr k) t → Q (.inr k) t)))))) :
    mc_WP (62, 70, [.ref 84, .int x1, .int x2, .int x3, .int x4, .int x5, x6], [.int y0], (I, J, rf_w r, sh_w N, n), (0, 0)) Q := by
  exact (mc_WP.run (mc_adjs _) 3 (And.intro (fun c4 => (h.1 c4)) (fun c4 => (mc_WP.run (mc_adjs _) 2 (And.intro (fun c5 => ((h.2 c4).1 c5)) (fun c5 => (mc_WP.run (mc_adjs _) 3 (And.intro rfl (And.intro (by decide) (And.intro (by decide) ((h.2 c4).2 c5)))))))))))
set_option maxRecDepth 20000 in
theorem bk_62_87 {x1 : Int32} {x2 : Int32} {x3 : Int32} {x4 : Int32} {x5 : Int32} {x6 : Int32} {y0 : Int32}
    (h : (((1 : Int32) <<< (x6 &&& 31)) ≤ y0 →
        (mc_WP (62, 98, [.ref 84, .int x1, .int x2, .int x3, .int x4, .int x5, .int x6], [], (I, J, rf_w r, sh_w N, n), (0, 0)) Q)) ∧
        (¬ (((1 : Int32) <<< (x6 &&& 31)) ≤ y0) →
        (mc_WP (62, 94, [.ref 84, .int x1, .int x2, .int x3, .int x4, .int x5, .int x6], [], (I, J, rf_w r, sh_w N, n), (0, 0)) Q))) :
    mc_WP (62, 87, [.ref 84, .int x1, .int x2, .int x3, .int x4, .int x5, .int x6], [.int y0], (I, J, rf_w r, sh_w N, n), (0, 0)) Q := by
  exact (mc_WP.run (mc_adjs _) 4 (And.intro (fun c2 => (h.1 c2)) (fun c2 => (h.2 c2))))
set_option maxRecDepth 20000 in
theorem bk_62_94 {x1 : Int32} {x2 : Int32} {x3 : Int32} {x4 : Int32} {x5 : Int32} {x6 : Int32}
    (h : mc_WP (62, 99, [.ref 84, .int x1, .int x2, .int x3, .int x4, .int x5, .int x6], [.int (1 : Int32)], (I, J, rf_w r, sh_w N, n), (0, 0)) Q) :
    mc_WP (62, 94, [.ref 84, .int x1, .int x2, .int x3, .int x4, .int x5, .int x6], [], (I, J, rf_w r, sh_w N, n), (0, 0)) Q := by
  exact (mc_WP.run (mc_adjs _) 2 h)
set_option maxRecDepth 20000 in
theorem bk_62_98 {x1 : Int32} {x2 : Int32} {x3 : Int32} {x4 : Int32} {x5 : Int32} {x6 : Int32}
    (h : mc_WP (62, 99, [.ref 84, .int x1, .int x2, .int x3, .int x4, .int x5, .int x6], [.int (0 : Int32)], (I, J, rf_w r, sh_w N, n), (0, 0)) Q) :
    mc_WP (62, 98, [.ref 84, .int x1, .int x2, .int x3, .int x4, .int x5, .int x6], [], (I, J, rf_w r, sh_w N, n), (0, 0)) Q := by
  exact (mc_WP.run (mc_adjs _) 1 h)
set_option maxRecDepth 20000 in
theorem bk_62_99 {x1 : Int32} {x2 : Int32} {x3 : Int32} {x4 : Int32} {x5 : Int32} {x6 : Int32} {y0 : Int32}
    (h : mc_WP (62, 5, [.ref 84, .int x1, .int x2, .int y0, .int (x4 + (1 : Int32)), .int x5, .int x6], [], (I, J, rf_w r, sh_w N, n), (0, 0)) Q) :
    mc_WP (62, 99, [.ref 84, .int x1, .int x2, .int x3, .int x4, .int x5, .int x6], [.int y0], (I, J, rf_w r, sh_w N, n), (0, 0)) Q := by
  exact (mc_WP.run (mc_adjs _) 3 h)
-- 63 palette(II)I joins inl<=1
set_option maxRecDepth 20000 in
theorem bk_63_0 {x1 : Int32} {x2 : Int32}
    (h : (x1 = (-1 : Int32) →
        (mc_WP (63, 13, [.ref 84, .int x1, .int x2, .null, .null, .null, .null, .null, .null], [], (I, J, rf_w r, sh_w N, n), (0, 0)) Q)) ∧
        (¬ (x1 = (-1 : Int32)) →
        (∃ R : mc_Q, mc_WP (mc_en 58 [.ref 84, .int x1] (I, J, rf_w r, sh_w N, n)) R ∧ (∀ v t, R (.inl v) t → mc_WP (63, 10, [.ref 84, .int x1, .int x2, .null, .null, .null, .null, .null, .null], v.toList ++ [], t, (0, 0)) Q) ∧ (∀ k t, R (.inr k) t → Q (.inr k) t)))) :
    mc_WP (mc_en 63 [.ref 84, .int x1, .int x2] (I, J, rf_w r, sh_w N, n)) Q := by
  exact (mc_WP.run (mc_adjs _) 3 (And.intro (fun c3 => (h.1 c3)) (fun c3 => (mc_WP.run (mc_adjs _) 3 (And.intro rfl (And.intro (by decide) (And.intro (by decide) (h.2 c3))))))))
set_option maxRecDepth 20000 in
theorem bk_63_10 {x1 : Int32} {x2 : Int32} {y0 : Int32}
    (h : (y0 = 0 →
        (mc_WP (63, 18, [.ref 84, .int x1, .int x2, .null, .null, .null, .null, .null, .null], [.int (0 : Int32)], (I, J, rf_w r, sh_w N, n), (0, 0)) Q)) ∧
        (¬ (y0 = 0) →
        (mc_WP (63, 13, [.ref 84, .int x1, .int x2, .null, .null, .null, .null, .null, .null], [], (I, J, rf_w r, sh_w N, n), (0, 0)) Q))) :
    mc_WP (63, 10, [.ref 84, .int x1, .int x2, .null, .null, .null, .null, .null, .null], [.int y0], (I, J, rf_w r, sh_w N, n), (0, 0)) Q := by
  exact (mc_WP.run (mc_adjs _) 1 (And.intro (fun c3 => (mc_WP.run (mc_adjs _) 1 (h.1 c3))) (fun c3 => (h.2 c3))))
set_option maxRecDepth 20000 in
theorem bk_63_13 {x1 : Int32} {x2 : Int32}
    (h : mc_WP (63, 18, [.ref 84, .int x1, .int x2, .null, .null, .null, .null, .null, .null], [.int (1 : Int32)], (I, J, rf_w r, sh_w N, n), (0, 0)) Q) :
    mc_WP (63, 13, [.ref 84, .int x1, .int x2, .null, .null, .null, .null, .null, .null], [], (I, J, rf_w r, sh_w N, n), (0, 0)) Q := by
  exact (mc_WP.run (mc_adjs _) 2 h)
set_option maxRecDepth 20000 in
theorem bk_63_18 {x1 : Int32} {x2 : Int32} {y0 : Int32}
    (h : (¬ y0 = 0 →
        ((0 ≤ x1 →
          (mc_WP (63, 38, [.ref 84, .int x1, .int x2, .int y0, .null, .null, .null, .null, .null], [.int (0 : Int32), .int x2, .ref 84], (I, J, rf_w r, sh_w N, n), (0, 0)) Q)) ∧
          (¬ (0 ≤ x1) →
          (mc_WP (63, 38, [.ref 84, .int x1, .int x2, .int y0, .null, .null, .null, .null, .null], [.int (1 : Int32), .int x2, .ref 84], (I, J, rf_w r, sh_w N, n), (0, 0)) Q)))) ∧
        (¬ (¬ y0 = 0) →
        (mc_WP (63, 59, [.ref 84, .int x1, .int x2, .int y0, .null, .null, .null, .null, .null], [.int (1 : Int32), .ref 84], (I, J, rf_w r, sh_w N, n), (0, 0)) Q))) :
    mc_WP (63, 18, [.ref 84, .int x1, .int x2, .null, .null, .null, .null, .null, .null], [.int y0], (I, J, rf_w r, sh_w N, n), (0, 0)) Q := by
  exact (mc_WP.run (mc_adjs _) 4 (And.intro (fun c6 => (mc_WP.run (mc_adjs _) 3 (And.intro (fun c7 => (mc_WP.run (mc_adjs _) 1 ((h.1 c6).1 c7))) (fun c7 => (mc_WP.run (mc_adjs _) 2 ((h.1 c6).2 c7)))))) (fun c6 => (mc_WP.run (mc_adjs _) 2 (h.2 c6)))))
set_option maxRecDepth 20000 in
theorem bk_63_38 {x1 : Int32} {x2 : Int32} {x3 : Int32} {y1 : Int32} {y2 : Int32}
    (h : ∃ R : mc_Q, mc_WP (mc_en 57 [.int y1, .int y2, .int (4 : Int32)] (I, J, rf_w r, sh_w N, n)) R ∧ (∀ v t, R (.inl v) t → mc_WP (63, 42, [.ref 84, .int x1, .int x2, .int x3, .null, .null, .null, .null, .null], v.toList ++ [.ref 84], t, (0, 0)) Q) ∧ (∀ k t, R (.inr k) t → Q (.inr k) t)) :
    mc_WP (63, 38, [.ref 84, .int x1, .int x2, .int x3, .null, .null, .null, .null, .null], [.int y2, .int y1, .ref 84], (I, J, rf_w r, sh_w N, n), (0, 0)) Q := by
  exact (mc_WP.run (mc_adjs _) 2 (And.intro (by decide) (And.intro (by decide) h)))
set_option maxRecDepth 20000 in
theorem bk_63_42 {x1 : Int32} {x2 : Int32} {x3 : Int32} {y1 : Int32}
    (h : (¬ y1 = 0 →
        (mc_WP (63, 54, [.ref 84, .int x1, .int x2, .int x3, .null, .null, .null, .null, .null], [.ref 84], (I, J, rf_w r, sh_w N, n), (0, 0)) Q)) ∧
        (¬ (¬ y1 = 0) →
        (∃ R : mc_Q, mc_WP (mc_en 62 [.ref 84, .int x1, .int x2] (I, J, rf_w r, sh_w N, n)) R ∧ (∀ v t, R (.inl v) t → mc_WP (63, 51, [.ref 84, .int x1, .int x2, .int x3, .null, .null, .null, .null, .null], v.toList ++ [.ref 84], t, (0, 0)) Q) ∧ (∀ k t, R (.inr k) t → Q (.inr k) t)))) :
    mc_WP (63, 42, [.ref 84, .int x1, .int x2, .int x3, .null, .null, .null, .null, .null], [.int y1, .ref 84], (I, J, rf_w r, sh_w N, n), (0, 0)) Q := by
  exact (mc_WP.run (mc_adjs _) 1 (And.intro (fun c3 => (h.1 c3)) (fun c3 => (mc_WP.run (mc_adjs _) 4 (And.intro rfl (And.intro (by decide) (And.intro (by decide) (h.2 c3))))))))
set_option maxRecDepth 20000 in
theorem bk_63_51 {x1 : Int32} {x2 : Int32} {x3 : Int32} {y1 : Int32}
    (h : (¬ y1 = 0 →
        (mc_WP (63, 59, [.ref 84, .int x1, .int x2, .int x3, .null, .null, .null, .null, .null], [.int (0 : Int32), .ref 84], (I, J, rf_w r, sh_w N, n), (0, 0)) Q)) ∧
        (¬ (¬ y1 = 0) →
        (mc_WP (63, 54, [.ref 84, .int x1, .int x2, .int x3, .null, .null, .null, .null, .null], [.ref 84], (I, J, rf_w r, sh_w N, n), (0, 0)) Q))) :
    mc_WP (63, 51, [.ref 84, .int x1, .int x2, .int x3, .null, .null, .null, .null, .null], [.int y1, .ref 84], (I, J, rf_w r, sh_w N, n), (0, 0)) Q := by
  exact (mc_WP.run (mc_adjs _) 1 (And.intro (fun c3 => (mc_WP.run (mc_adjs _) 1 (h.1 c3))) (fun c3 => (h.2 c3))))
set_option maxRecDepth 20000 in
theorem bk_63_54 {x1 : Int32} {x2 : Int32} {x3 : Int32}
    (h : mc_WP (63, 59, [.ref 84, .int x1, .int x2, .int x3, .null, .null, .null, .null, .null], [.int (2 : Int32), .ref 84], (I, J, rf_w r, sh_w N, n), (0, 0)) Q) :
    mc_WP (63, 54, [.ref 84, .int x1, .int x2, .int x3, .null, .null, .null, .null, .null], [.ref 84], (I, J, rf_w r, sh_w N, n), (0, 0)) Q := by
  exact (mc_WP.run (mc_adjs _) 2 h)
set_option maxRecDepth 20000 in
theorem bk_63_59 {x1 : Int32} {x2 : Int32} {x3 : Int32} {y1 : Int32}
    (h : (y1 ≤ 0 →
        (vp_in (((9 : Int32) * (x1 + (1 : Int32))) + (4 : Int32)) 45 ∧ mc_WP (63, 89, [.ref 84, .int x1, .int x2, .int x3, .int (I 85 (((9 : Int32) * (x1 + (1 : Int32))) + (4 : Int32)).toNatClampNeg), .int (0 : Int32), .null, .null, .null], [], ((mc_up I 84 0 y1), J, rf_w r, sh_w N, n), (0, 0)) Q)) ∧
        (¬ (y1 ≤ 0) →
        (Q (.inl (some (.int (0 : Int32)))) ((mc_up I 84 0 y1), J, rf_w r, sh_w N, n)))) :
    mc_WP (63, 59, [.ref 84, .int x1, .int x2, .int x3, .null, .null, .null, .null, .null], [.int y1, .ref 84], (I, J, rf_w r, sh_w N, n), (0, 0)) Q := by
  exact (mc_WP.run (mc_adjs _) 4 (And.intro rfl (And.intro rfl (And.intro (fun c4 => (mc_WP.run (mc_adjs _) 13 (And.intro ⟨rfl, (show ¬ (85 : Nat) = 0 by decide)⟩ (And.intro (wl_ld rfl (h.1 c4).1) (h.1 c4).2)))) (fun c4 => (mc_WP.run (mc_adjs _) 2 (h.2 c4)))))))
set_option maxRecDepth 20000 in
theorem bk_63_89 {x1 : Int32} {x2 : Int32} {x3 : Int32} {x4 : Int32} {x5 : Int32} {x6 : Value} {x7 : Value} {x8 : Value}
    (h : ((16 : Int32) ≤ x5 →
        (vp_in (((9 : Int32) * (x1 + (1 : Int32))) + (4 : Int32)) 45 ∧ (¬ x2 = 0 →
          (mc_WP (63, 217, [.ref 84, .int x1, .int x2, .int x3, .int x4, .int x5, x6, x7, x8], [.int ((1 : Int32) <<< (x2 &&& 31))], ((mc_up I 85 (((9 : Int32) * (x1 + (1 : Int32))) + (4 : Int32)).toNatClampNeg x2), J, rf_w r, sh_w N, n), (0, 0)) Q)) ∧
          (¬ (¬ x2 = 0) →
          (mc_WP (63, 217, [.ref 84, .int x1, .int x2, .int x3, .int x4, .int x5, x6, x7, x8], [.int (0 : Int32)], ((mc_up I 85 (((9 : Int32) * (x1 + (1 : Int32))) + (4 : Int32)).toNatClampNeg x2), J, rf_w r, sh_w N, n), (0, 0)) Q)))) ∧
        (¬ ((16 : Int32) ≤ x5) →
        ((((1 : Int32) <<< (x4 &&& 31)) ≤ x5 →
          (mc_WP (63, 114, [.ref 84, .int x1, .int x2, .int x3, .int x4, .int x5, x6, x7, x8], [], (I, J, rf_w r, sh_w N, n), (0, 0)) Q)) ∧
          (¬ (((1 : Int32) <<< (x4 &&& 31)) ≤ x5) →
          ((x4 ≤ 0 →
            (mc_WP (63, 114, [.ref 84, .int x1, .int x2, .int x3, .int x4, .int x5, x6, x7, x8], [], (I, J, rf_w r, sh_w N, n), (0, 0)) Q)) ∧
            (¬ (x4 ≤ 0) →
            (mc_WP (63, 115, [.ref 84, .int x1, .int x2, .int x3, .int x4, .int x5, x6, x7, x8], [.int (1 : Int32)], (I, J, rf_w r, sh_w N, n), (0, 0)) Q))))))) :
    mc_WP (63, 89, [.ref 84, .int x1, .int x2, .int x3, .int x4, .int x5, x6, x7, x8], [], (I, J, rf_w r, sh_w N, n), (0, 0)) Q := by
  exact (mc_WP.run (mc_adjs _) 3 (And.intro (fun c8 => (mc_WP.run (mc_adjs _) 13 (And.intro ⟨rfl, (show ¬ (85 : Nat) = 0 by decide)⟩ (And.intro (wl_st rfl (h.1 c8).1 (show 10 ≤ (85 : Nat) by decide)) (And.intro (fun c9 => (mc_WP.run (mc_adjs _) 3 ((h.1 c8).2.1 c9))) (fun c9 => (mc_WP.run (mc_adjs _) 2 ((h.1 c8).2.2 c9)))))))) (fun c8 => (mc_WP.run (mc_adjs _) 5 (And.intro (fun c10 => ((h.2 c8).1 c10)) (fun c10 => (mc_WP.run (mc_adjs _) 2 (And.intro (fun c11 => (((h.2 c8).2 c10).1 c11)) (fun c11 => (mc_WP.run (mc_adjs _) 2 (((h.2 c8).2 c10).2 c11)))))))))))
set_option maxRecDepth 20000 in
theorem bk_63_114 {x1 : Int32} {x2 : Int32} {x3 : Int32} {x4 : Int32} {x5 : Int32} {x6 : Value} {x7 : Value} {x8 : Value}
    (h : mc_WP (63, 115, [.ref 84, .int x1, .int x2, .int x3, .int x4, .int x5, x6, x7, x8], [.int (0 : Int32)], (I, J, rf_w r, sh_w N, n), (0, 0)) Q) :
    mc_WP (63, 114, [.ref 84, .int x1, .int x2, .int x3, .int x4, .int x5, x6, x7, x8], [], (I, J, rf_w r, sh_w N, n), (0, 0)) Q := by
  exact (mc_WP.run (mc_adjs _) 1 h)
set_option maxRecDepth 20000 in
theorem bk_63_115 {x1 : Int32} {x2 : Int32} {x3 : Int32} {x4 : Int32} {x5 : Int32} {x6 : Value} {x7 : Value} {x8 : Value} {y0 : Int32}
    (h : (((1 : Int32) <<< (x2 &&& 31)) ≤ x5 →
        (mc_WP (63, 133, [.ref 84, .int x1, .int x2, .int x3, .int x4, .int x5, .int y0, x7, x8], [], (I, J, rf_w r, sh_w N, n), (0, 0)) Q)) ∧
        (¬ (((1 : Int32) <<< (x2 &&& 31)) ≤ x5) →
        ((x2 ≤ 0 →
          (mc_WP (63, 133, [.ref 84, .int x1, .int x2, .int x3, .int x4, .int x5, .int y0, x7, x8], [], (I, J, rf_w r, sh_w N, n), (0, 0)) Q)) ∧
          (¬ (x2 ≤ 0) →
          (mc_WP (63, 134, [.ref 84, .int x1, .int x2, .int x3, .int x4, .int x5, .int y0, x7, x8], [.int (1 : Int32)], (I, J, rf_w r, sh_w N, n), (0, 0)) Q))))) :
    mc_WP (63, 115, [.ref 84, .int x1, .int x2, .int x3, .int x4, .int x5, x6, x7, x8], [.int y0], (I, J, rf_w r, sh_w N, n), (0, 0)) Q := by
  exact (mc_WP.run (mc_adjs _) 6 (And.intro (fun c4 => (h.1 c4)) (fun c4 => (mc_WP.run (mc_adjs _) 2 (And.intro (fun c5 => ((h.2 c4).1 c5)) (fun c5 => (mc_WP.run (mc_adjs _) 2 ((h.2 c4).2 c5))))))))
set_option maxRecDepth 20000 in
theorem bk_63_133 {x1 : Int32} {x2 : Int32} {x3 : Int32} {x4 : Int32} {x5 : Int32} {x6 : Int32} {x7 : Value} {x8 : Value}
    (h : mc_WP (63, 134, [.ref 84, .int x1, .int x2, .int x3, .int x4, .int x5, .int x6, x7, x8], [.int (0 : Int32)], (I, J, rf_w r, sh_w N, n), (0, 0)) Q) :
    mc_WP (63, 133, [.ref 84, .int x1, .int x2, .int x3, .int x4, .int x5, .int x6, x7, x8], [], (I, J, rf_w r, sh_w N, n), (0, 0)) Q := by
  exact (mc_WP.run (mc_adjs _) 1 h)
set_option maxRecDepth 20000 in
theorem bk_63_134 {x1 : Int32} {x2 : Int32} {x3 : Int32} {x4 : Int32} {x5 : Int32} {x6 : Int32} {x7 : Value} {x8 : Value} {y0 : Int32}
    (h : (x6 = 0 →
        (mc_WP (63, 159, [.ref 84, .int x1, .int x2, .int x3, .int x4, .int x5, .int x6, .int y0, x8], [.int (0 : Int32)], (I, J, rf_w r, sh_w N, n), (0, 0)) Q)) ∧
        (¬ (x6 = 0) →
        (vp_in (((16 : Int32) * (x1 + (1 : Int32))) + x5) 80 ∧ mc_WP (63, 159, [.ref 84, .int x1, .int x2, .int x3, .int x4, .int x5, .int x6, .int y0, x8], [.int (I 86 (((16 : Int32) * (x1 + (1 : Int32))) + x5).toNatClampNeg)], (I, J, rf_w r, sh_w N, n), (0, 0)) Q))) :
    mc_WP (63, 134, [.ref 84, .int x1, .int x2, .int x3, .int x4, .int x5, .int x6, x7, x8], [.int y0], (I, J, rf_w r, sh_w N, n), (0, 0)) Q := by
  exact (mc_WP.run (mc_adjs _) 3 (And.intro (fun c4 => (mc_WP.run (mc_adjs _) 1 (h.1 c4))) (fun c4 => (mc_WP.run (mc_adjs _) 11 (And.intro ⟨rfl, (show ¬ (86 : Nat) = 0 by decide)⟩ (And.intro (wl_ld rfl (h.2 c4).1) (h.2 c4).2))))))
set_option maxRecDepth 20000 in
theorem bk_63_159 {x1 : Int32} {x2 : Int32} {x3 : Int32} {x4 : Int32} {x5 : Int32} {x6 : Int32} {x7 : Int32} {x8 : Value} {y0 : Int32}
    (h : (x7 = 0 →
        (mc_WP (63, 185, [.ref 84, .int x1, .int x2, .int x3, .int x4, .int x5, .int x6, .int x7, .int y0], [.int (0 : Int32), .int (((16 : Int32) * (x1 + (1 : Int32))) + x5), .ref 86], (I, J, rf_w r, sh_w N, n), (0, 0)) Q)) ∧
        (¬ (x7 = 0) →
        (mc_WP (63, 185, [.ref 84, .int x1, .int x2, .int x3, .int x4, .int x5, .int x6, .int x7, .int y0], [.int y0, .int (((16 : Int32) * (x1 + (1 : Int32))) + x5), .ref 86], (I, J, rf_w r, sh_w N, n), (0, 0)) Q))) :
    mc_WP (63, 159, [.ref 84, .int x1, .int x2, .int x3, .int x4, .int x5, .int x6, .int x7, x8], [.int y0], (I, J, rf_w r, sh_w N, n), (0, 0)) Q := by
  exact (mc_WP.run (mc_adjs _) 12 (And.intro ⟨rfl, (show ¬ (86 : Nat) = 0 by decide)⟩ (And.intro (fun c4 => (mc_WP.run (mc_adjs _) 1 (h.1 c4))) (fun c4 => (mc_WP.run (mc_adjs _) 2 (h.2 c4))))))
set_option maxRecDepth 20000 in
theorem bk_63_185 {x1 : Int32} {x2 : Int32} {x3 : Int32} {x4 : Int32} {x5 : Int32} {x6 : Int32} {x7 : Int32} {x8 : Int32} {b0 : Nat} {b0z : Nat} {y1 : Int32} {y2 : Int32} (hb0 : sh_w N b0 = (2, b0z)) (gb0 : 10 ≤ b0)
    (h : vp_in y1 b0z ∧ mc_WP (63, 89, [.ref 84, .int x1, .int x2, .int x3, .int x4, .int (x5 + (1 : Int32)), .int x6, .int x7, .int x8], [], ((mc_up I b0 y1.toNatClampNeg y2), J, rf_w r, sh_w N, n), (0, 0)) Q) :
    mc_WP (63, 185, [.ref 84, .int x1, .int x2, .int x3, .int x4, .int x5, .int x6, .int x7, .int x8], [.int y2, .int y1, .ref b0], (I, J, rf_w r, sh_w N, n), (0, 0)) Q := by
  exact (mc_WP.run (mc_adjs _) 3 (And.intro (wl_st hb0 h.1 gb0) h.2))
set_option maxRecDepth 20000 in
theorem bk_63_217 {x1 : Int32} {x2 : Int32} {x3 : Int32} {x4 : Int32} {x5 : Int32} {x6 : Value} {x7 : Value} {x8 : Value} {y0 : Int32}
    (h : Q (.inl (some (.int y0))) (I, J, rf_w r, sh_w N, n)) :
    mc_WP (63, 217, [.ref 84, .int x1, .int x2, .int x3, .int x4, .int x5, x6, x7, x8], [.int y0], (I, J, rf_w r, sh_w N, n), (0, 0)) Q := by
  exact (mc_WP.run (mc_adjs _) 1 h)
-- 64 colour(III)V inl<=6
set_option maxRecDepth 20000 in
theorem bk_64_0 {x1 : Int32} {x2 : Int32} {x3 : Int32}
    (h : (x1 = (-1 : Int32) →
        (vp_in (((9 : Int32) * (x1 + (1 : Int32))) + (4 : Int32)) 45 ∧ ((I 85 (((9 : Int32) * (x1 + (1 : Int32))) + (4 : Int32)).toNatClampNeg) = 0 →
          (Q (.inl none) ((mc_up I 84 0 (1 : Int32)), J, rf_w r, sh_w N, n))) ∧
          (¬ ((I 85 (((9 : Int32) * (x1 + (1 : Int32))) + (4 : Int32)).toNatClampNeg) = 0) →
          ((x2 < (0 : Int32) →
            (Q (.inl none) ((mc_up I 84 0 (1 : Int32)), J, rf_w r, sh_w N, n))) ∧
            (¬ (x2 < (0 : Int32)) →
            ((x2 ≤ (((1 : Int32) <<< ((I 85 (((9 : Int32) * (x1 + (1 : Int32))) + (4 : Int32)).toNatClampNeg) &&& 31)) - (1 : Int32)) →
              (vp_in (((16 : Int32) * (x1 + (1 : Int32))) + x2) 80 ∧ Q (.inl none) ((mc_up (mc_up I 84 0 (0 : Int32)) 86 (((16 : Int32) * (x1 + (1 : Int32))) + x2).toNatClampNeg (x3 &&& (Int32.ofNat 16777215))), J, rf_w r, sh_w N, n))) ∧
              (¬ (x2 ≤ (((1 : Int32) <<< ((I 85 (((9 : Int32) * (x1 + (1 : Int32))) + (4 : Int32)).toNatClampNeg) &&& 31)) - (1 : Int32))) →
              (Q (.inl none) ((mc_up I 84 0 (1 : Int32)), J, rf_w r, sh_w N, n))))))))) ∧
        (¬ (x1 = (-1 : Int32)) →
        ((x1 < 0 →
          (Q (.inl none) ((mc_up I 84 0 (1 : Int32)), J, rf_w r, sh_w N, n))) ∧
          (¬ (x1 < 0) →
          (((I 84 1) ≤ x1 →
            (Q (.inl none) ((mc_up I 84 0 (1 : Int32)), J, rf_w r, sh_w N, n))) ∧
            (¬ ((I 84 1) ≤ x1) →
            (vp_in (((9 : Int32) * (x1 + (1 : Int32))) + (4 : Int32)) 45 ∧ ((I 85 (((9 : Int32) * (x1 + (1 : Int32))) + (4 : Int32)).toNatClampNeg) = 0 →
              (Q (.inl none) ((mc_up I 84 0 (1 : Int32)), J, rf_w r, sh_w N, n))) ∧
              (¬ ((I 85 (((9 : Int32) * (x1 + (1 : Int32))) + (4 : Int32)).toNatClampNeg) = 0) →
              ((x2 < (0 : Int32) →
                (Q (.inl none) ((mc_up I 84 0 (1 : Int32)), J, rf_w r, sh_w N, n))) ∧
                (¬ (x2 < (0 : Int32)) →
                ((x2 ≤ (((1 : Int32) <<< ((I 85 (((9 : Int32) * (x1 + (1 : Int32))) + (4 : Int32)).toNatClampNeg) &&& 31)) - (1 : Int32)) →
                  (vp_in (((16 : Int32) * (x1 + (1 : Int32))) + x2) 80 ∧ Q (.inl none) ((mc_up (mc_up I 84 0 (0 : Int32)) 86 (((16 : Int32) * (x1 + (1 : Int32))) + x2).toNatClampNeg (x3 &&& (Int32.ofNat 16777215))), J, rf_w r, sh_w N, n))) ∧
                  (¬ (x2 ≤ (((1 : Int32) <<< ((I 85 (((9 : Int32) * (x1 + (1 : Int32))) + (4 : Int32)).toNatClampNeg) &&& 31)) - (1 : Int32))) →
                  (Q (.inl none) ((mc_up I 84 0 (1 : Int32)), J, rf_w r, sh_w N, n)))))))))))))) :
    mc_WP (mc_en 64 [.ref 84, .int x1, .int x2, .int x3] (I, J, rf_w r, sh_w N, n)) Q := by
  exact (mc_WP.run (mc_adjs _) 3 (And.intro (fun c74 => (mc_WP.run (mc_adjs _) 2 (mc_WP.run (mc_adjs _) 3 (And.intro (fun c => absurd c (show ¬ ((1 : Int32) = 0) by decide)) (fun _ => (mc_WP.run (mc_adjs _) 11 (And.intro ⟨rfl, (show ¬ (85 : Nat) = 0 by decide)⟩ (And.intro (wl_ld rfl (h.1 c74).1) (mc_WP.run (mc_adjs _) 4 (And.intro (fun c75 => (mc_WP.run (mc_adjs _) 2 (mc_WP.run (mc_adjs _) 4 (And.intro rfl (And.intro rfl (And.intro (fun _ => (mc_WP.run (mc_adjs _) 1 ((h.1 c74).2.1 c75))) (fun c => absurd (show ¬ (1 : Int32) = 0 by decide) c))))))) (fun c75 => (mc_WP.run (mc_adjs _) 8 (And.intro (by decide) (And.intro (by decide) (mc_inl (mc_WP.run (mc_adjs _) 3 (And.intro (fun c76 => (mc_WP.run (mc_adjs _) 2 (mc_WP.run (mc_adjs _) 1 (And.intro (by decide) (mc_WP.run (mc_adjs _) 1 (And.intro (fun c => absurd c (show ¬ ((1 : Int32) = 0) by decide)) (fun _ => (mc_WP.run (mc_adjs _) 2 (mc_WP.run (mc_adjs _) 4 (And.intro rfl (And.intro rfl (And.intro (fun _ => (mc_WP.run (mc_adjs _) 1 (((h.1 c74).2.2 c75).1 c76))) (fun c => absurd (show ¬ (1 : Int32) = 0 by decide) c))))))))))))) (fun c76 => (mc_WP.run (mc_adjs _) 3 (And.intro (fun c77 => (mc_WP.run (mc_adjs _) 2 (And.intro (by decide) (mc_WP.run (mc_adjs _) 1 (And.intro (fun _ => (mc_WP.run (mc_adjs _) 5 (And.intro rfl (And.intro rfl (And.intro (fun c => absurd c (show ¬ (¬ (0 : Int32) = 0) by decide)) (fun _ => (mc_WP.run (mc_adjs _) 14 (And.intro ⟨rfl, (show ¬ (86 : Nat) = 0 by decide)⟩ (And.intro (wl_st rfl ((((h.1 c74).2.2 c75).2 c76).1 c77).1 (show 10 ≤ (86 : Nat) by decide)) ((((h.1 c74).2.2 c75).2 c76).1 c77).2))))))))) (fun c => absurd (show (0 : Int32) = 0 by decide) c)))))) (fun c77 => (mc_WP.run (mc_adjs _) 2 (mc_WP.run (mc_adjs _) 1 (And.intro (by decide) (mc_WP.run (mc_adjs _) 1 (And.intro (fun c => absurd c (show ¬ ((1 : Int32) = 0) by decide)) (fun _ => (mc_WP.run (mc_adjs _) 2 (mc_WP.run (mc_adjs _) 4 (And.intro rfl (And.intro rfl (And.intro (fun _ => (mc_WP.run (mc_adjs _) 1 ((((h.1 c74).2.2 c75).2 c76).2 c77))) (fun c => absurd (show ¬ (1 : Int32) = 0 by decide) c))))))))))))))))))))))))))))))))) (fun c74 => (mc_WP.run (mc_adjs _) 3 (And.intro rfl (And.intro (by decide) (And.intro (by decide) (mc_inl (mc_WP.run (mc_adjs _) 2 (And.intro (fun c78 => (mc_WP.run (mc_adjs _) 2 (And.intro (by decide) (mc_WP.run (mc_adjs _) 1 (And.intro (fun _ => (mc_WP.run (mc_adjs _) 4 (And.intro (fun _ => (mc_WP.run (mc_adjs _) 5 (And.intro (fun _ => (mc_WP.run (mc_adjs _) 2 (mc_WP.run (mc_adjs _) 4 (And.intro rfl (And.intro rfl (And.intro (fun _ => (mc_WP.run (mc_adjs _) 1 ((h.2 c74).1 c78))) (fun c => absurd (show ¬ (1 : Int32) = 0 by decide) c))))))) (fun c => absurd (show (0 : Int32) = 0 by decide) c)))) (fun c => absurd (show (0 : Int32) = 0 by decide) c)))) (fun c => absurd (show (0 : Int32) = 0 by decide) c)))))) (fun c78 => (mc_WP.run (mc_adjs _) 4 (And.intro rfl (And.intro (fun c79 => (mc_WP.run (mc_adjs _) 2 (And.intro (by decide) (mc_WP.run (mc_adjs _) 1 (And.intro (fun _ => (mc_WP.run (mc_adjs _) 4 (And.intro (fun _ => (mc_WP.run (mc_adjs _) 5 (And.intro (fun _ => (mc_WP.run (mc_adjs _) 2 (mc_WP.run (mc_adjs _) 4 (And.intro rfl (And.intro rfl (And.intro (fun _ => (mc_WP.run (mc_adjs _) 1 (((h.2 c74).2 c78).1 c79))) (fun c => absurd (show ¬ (1 : Int32) = 0 by decide) c))))))) (fun c => absurd (show (0 : Int32) = 0 by decide) c)))) (fun c => absurd (show (0 : Int32) = 0 by decide) c)))) (fun c => absurd (show (0 : Int32) = 0 by decide) c)))))) (fun c79 => (mc_WP.run (mc_adjs _) 2 (mc_WP.run (mc_adjs _) 1 (And.intro (by decide) (mc_WP.run (mc_adjs _) 1 (And.intro (fun c => absurd c (show ¬ ((1 : Int32) = 0) by decide)) (fun _ => (mc_WP.run (mc_adjs _) 2 (mc_WP.run (mc_adjs _) 3 (And.intro (fun c => absurd c (show ¬ ((1 : Int32) = 0) by decide)) (fun _ => (mc_WP.run (mc_adjs _) 11 (And.intro ⟨rfl, (show ¬ (85 : Nat) = 0 by decide)⟩ (And.intro (wl_ld rfl (((h.2 c74).2 c78).2 c79).1) (mc_WP.run (mc_adjs _) 4 (And.intro (fun c80 => (mc_WP.run (mc_adjs _) 2 (mc_WP.run (mc_adjs _) 4 (And.intro rfl (And.intro rfl (And.intro (fun _ => (mc_WP.run (mc_adjs _) 1 ((((h.2 c74).2 c78).2 c79).2.1 c80))) (fun c => absurd (show ¬ (1 : Int32) = 0 by decide) c))))))) (fun c80 => (mc_WP.run (mc_adjs _) 8 (And.intro (by decide) (And.intro (by decide) (mc_inl (mc_WP.run (mc_adjs _) 3 (And.intro (fun c81 => (mc_WP.run (mc_adjs _) 2 (mc_WP.run (mc_adjs _) 1 (And.intro (by decide) (mc_WP.run (mc_adjs _) 1 (And.intro (fun c => absurd c (show ¬ ((1 : Int32) = 0) by decide)) (fun _ => (mc_WP.run (mc_adjs _) 2 (mc_WP.run (mc_adjs _) 4 (And.intro rfl (And.intro rfl (And.intro (fun _ => (mc_WP.run (mc_adjs _) 1 (((((h.2 c74).2 c78).2 c79).2.2 c80).1 c81))) (fun c => absurd (show ¬ (1 : Int32) = 0 by decide) c))))))))))))) (fun c81 => (mc_WP.run (mc_adjs _) 3 (And.intro (fun c82 => (mc_WP.run (mc_adjs _) 2 (And.intro (by decide) (mc_WP.run (mc_adjs _) 1 (And.intro (fun _ => (mc_WP.run (mc_adjs _) 5 (And.intro rfl (And.intro rfl (And.intro (fun c => absurd c (show ¬ (¬ (0 : Int32) = 0) by decide)) (fun _ => (mc_WP.run (mc_adjs _) 14 (And.intro ⟨rfl, (show ¬ (86 : Nat) = 0 by decide)⟩ (And.intro (wl_st rfl ((((((h.2 c74).2 c78).2 c79).2.2 c80).2 c81).1 c82).1 (show 10 ≤ (86 : Nat) by decide)) ((((((h.2 c74).2 c78).2 c79).2.2 c80).2 c81).1 c82).2))))))))) (fun c => absurd (show (0 : Int32) = 0 by decide) c)))))) (fun c82 => (mc_WP.run (mc_adjs _) 2 (mc_WP.run (mc_adjs _) 1 (And.intro (by decide) (mc_WP.run (mc_adjs _) 1 (And.intro (fun c => absurd c (show ¬ ((1 : Int32) = 0) by decide)) (fun _ => (mc_WP.run (mc_adjs _) 2 (mc_WP.run (mc_adjs _) 4 (And.intro rfl (And.intro rfl (And.intro (fun _ => (mc_WP.run (mc_adjs _) 1 ((((((h.2 c74).2 c78).2 c79).2.2 c80).2 c81).2 c82))) (fun c => absurd (show ¬ (1 : Int32) = 0 by decide) c)))))))))))))))))))))))))))))))))))))))))))))))))))))
end
