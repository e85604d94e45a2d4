/-! what the code does between its cut points (printed by blocks.py) -/
section
variable {I : Nat → Nat → Int32} {J : Nat → Nat → Int64} {r N n : Nat} {Q : mc_Q}
-- 90 write()I inl<=0
set_option maxRecDepth 20000 in
theorem bk_90_0
    (h : ∃ R : mc_Q, mc_WP (mc_en 81 [.ref 84, .int (80 : Int32)] ((mc_up (mc_up I 84 0 (0 : Int32)) 84 10 (0 : Int32)), J, rf_w r, sh_w N, n)) R ∧ (∀ v t, R (.inl v) t → mc_WP (90, 16, [.ref 84, .null], v.toList ++ [], t, (0, 0)) Q) ∧ (∀ k t, R (.inr k) t → Q (.inr k) t)) :
    mc_WP (mc_en 90 [.ref 84] (I, J, rf_w r, sh_w N, n)) Q := by
  exact (mc_WP.run (mc_adjs _) 9 (And.intro rfl (And.intro rfl (And.intro rfl (And.intro (by decide) (And.intro (by decide) h))))))
set_option maxRecDepth 20000 in
theorem bk_90_16
    (h : ∃ R : mc_Q, mc_WP (mc_en 81 [.ref 84, .int (49 : Int32)] (I, J, rf_w r, sh_w N, n)) R ∧ (∀ v t, R (.inl v) t → mc_WP (90, 22, [.ref 84, .null], v.toList ++ [], t, (0, 0)) Q) ∧ (∀ k t, R (.inr k) t → Q (.inr k) t)) :
    mc_WP (90, 16, [.ref 84, .null], [], (I, J, rf_w r, sh_w N, n), (0, 0)) Q := by
  exact (mc_WP.run (mc_adjs _) 3 (And.intro rfl (And.intro (by decide) (And.intro (by decide) h))))
set_option maxRecDepth 20000 in
theorem bk_90_22
    (h : ∃ R : mc_Q, mc_WP (mc_en 81 [.ref 84, .int (I 85 2)] (I, J, rf_w r, sh_w N, n)) R ∧ (∀ v t, R (.inl v) t → mc_WP (90, 32, [.ref 84, .null], v.toList ++ [], t, (0, 0)) Q) ∧ (∀ k t, R (.inr k) t → Q (.inr k) t)) :
    mc_WP (90, 22, [.ref 84, .null], [], (I, J, rf_w r, sh_w N, n), (0, 0)) Q := by
  exact (mc_WP.run (mc_adjs _) 6 (And.intro ⟨rfl, (show ¬ (85 : Nat) = 0 by decide)⟩ (And.intro (wl_ld rfl (show vp_in (2 : Int32) 45 by unfold vp_in; decide)) (And.intro rfl (And.intro (by decide) (And.intro (by decide) h))))))
set_option maxRecDepth 20000 in
theorem bk_90_32
    (h : ∃ R : mc_Q, mc_WP (mc_en 81 [.ref 84, .int (I 85 3)] (I, J, rf_w r, sh_w N, n)) R ∧ (∀ v t, R (.inl v) t → mc_WP (90, 42, [.ref 84, .null], v.toList ++ [], t, (0, 0)) Q) ∧ (∀ k t, R (.inr k) t → Q (.inr k) t)) :
    mc_WP (90, 32, [.ref 84, .null], [], (I, J, rf_w r, sh_w N, n), (0, 0)) Q := by
  exact (mc_WP.run (mc_adjs _) 6 (And.intro ⟨rfl, (show ¬ (85 : Nat) = 0 by decide)⟩ (And.intro (wl_ld rfl (show vp_in (3 : Int32) 45 by unfold vp_in; decide)) (And.intro rfl (And.intro (by decide) (And.intro (by decide) h))))))
set_option maxRecDepth 20000 in
theorem bk_90_42
    (h : ∃ R : mc_Q, mc_WP (mc_en 81 [.ref 84, .int ((I 85 4) - (1 : Int32))] (I, J, rf_w r, sh_w N, n)) R ∧ (∀ v t, R (.inl v) t → mc_WP (90, 54, [.ref 84, .null], v.toList ++ [], t, (0, 0)) Q) ∧ (∀ k t, R (.inr k) t → Q (.inr k) t)) :
    mc_WP (90, 42, [.ref 84, .null], [], (I, J, rf_w r, sh_w N, n), (0, 0)) Q := by
  exact (mc_WP.run (mc_adjs _) 8 (And.intro ⟨rfl, (show ¬ (85 : Nat) = 0 by decide)⟩ (And.intro (wl_ld rfl (show vp_in (4 : Int32) 45 by unfold vp_in; decide)) (And.intro rfl (And.intro (by decide) (And.intro (by decide) h))))))
set_option maxRecDepth 20000 in
theorem bk_90_54
    (h : ∃ R : mc_Q, mc_WP (mc_en 82 [.ref 84, .int (-1 : Int32)] (I, J, rf_w r, sh_w N, n)) R ∧ (∀ v t, R (.inl v) t → mc_WP (90, 59, [.ref 84, .null], v.toList ++ [], t, (0, 0)) Q) ∧ (∀ k t, R (.inr k) t → Q (.inr k) t)) :
    mc_WP (90, 54, [.ref 84, .null], [], (I, J, rf_w r, sh_w N, n), (0, 0)) Q := by
  exact (mc_WP.run (mc_adjs _) 3 (And.intro rfl (And.intro (by decide) (And.intro (by decide) h))))
set_option maxRecDepth 20000 in
theorem bk_90_59
    (h : mc_WP (90, 61, [.ref 84, .int (0 : Int32)], [], (I, J, rf_w r, sh_w N, n), (0, 0)) Q) :
    mc_WP (90, 59, [.ref 84, .null], [], (I, J, rf_w r, sh_w N, n), (0, 0)) Q := by
  exact (mc_WP.run (mc_adjs _) 2 h)
set_option maxRecDepth 20000 in
theorem bk_90_61 {x1 : Int32}
    (h : ((I 84 1) ≤ x1 →
        (∃ R : mc_Q, mc_WP (mc_en 81 [.ref 84, .int (59 : Int32)] (I, J, rf_w r, sh_w N, n)) R ∧ (∀ v t, R (.inl v) t → mc_WP (90, 86, [.ref 84, .int x1], v.toList ++ [], t, (0, 0)) Q) ∧ (∀ k t, R (.inr k) t → Q (.inr k) t))) ∧
        (¬ ((I 84 1) ≤ x1) →
        (∃ R : mc_Q, mc_WP (mc_en 89 [.ref 84, .int x1] (I, J, rf_w r, sh_w N, n)) R ∧ (∀ v t, R (.inl v) t → mc_WP (90, 74, [.ref 84, .int x1], v.toList ++ [], t, (0, 0)) Q) ∧ (∀ k t, R (.inr k) t → Q (.inr k) t)))) :
    mc_WP (90, 61, [.ref 84, .int x1], [], (I, J, rf_w r, sh_w N, n), (0, 0)) Q := by
  exact (mc_WP.run (mc_adjs _) 4 (And.intro rfl (And.intro (fun c4 => (mc_WP.run (mc_adjs _) 3 (And.intro rfl (And.intro (by decide) (And.intro (by decide) (h.1 c4)))))) (fun c4 => (mc_WP.run (mc_adjs _) 3 (And.intro rfl (And.intro (by decide) (And.intro (by decide) (h.2 c4)))))))))
set_option maxRecDepth 20000 in
theorem bk_90_74 {x1 : Int32}
    (h : mc_WP (90, 61, [.ref 84, .int (x1 + (1 : Int32))], [], (I, J, rf_w r, sh_w N, n), (0, 0)) Q) :
    mc_WP (90, 74, [.ref 84, .int x1], [], (I, J, rf_w r, sh_w N, n), (0, 0)) Q := by
  exact (mc_WP.run (mc_adjs _) 2 h)
set_option maxRecDepth 20000 in
theorem bk_90_86 {x1 : Int32}
    (h : Q (.inl (some (.int (I 84 10)))) (I, J, rf_w r, sh_w N, n)) :
    mc_WP (90, 86, [.ref 84, .int x1], [], (I, J, rf_w r, sh_w N, n), (0, 0)) Q := by
  exact (mc_WP.run (mc_adjs _) 3 (And.intro rfl h))
-- 91 feed(JI)I inl<=6
set_option maxRecDepth 20000 in
theorem bk_91_0 {x1 : Int64} {x3 : Int32}
    (h : (x3 < (1 : Int32) →
        (Q (.inl (some (.int (-1 : Int32)))) ((mc_up I 84 0 (0 : Int32)), J, rf_w r, sh_w N, n))) ∧
        (¬ (x3 < (1 : Int32)) →
        ((x3 ≤ (8 : Int32) →
          ((((I 84 10) + x3) ≤ (800 : Int32) →
            (mc_WP (91, 32, [.ref 84, .long x1, .null, .int x3, .int (0 : Int32)], [], ((mc_up I 84 0 (0 : Int32)), J, rf_w r, sh_w N, n), (0, 0)) Q)) ∧
            (¬ (((I 84 10) + x3) ≤ (800 : Int32)) →
            (Q (.inl (some (.int (-1 : Int32)))) ((mc_up I 84 0 (0 : Int32)), J, rf_w r, sh_w N, n))))) ∧
          (¬ (x3 ≤ (8 : Int32)) →
          (Q (.inl (some (.int (-1 : Int32)))) ((mc_up I 84 0 (0 : Int32)), J, rf_w r, sh_w N, n)))))) :
    mc_WP (mc_en 91 [.ref 84, .long x1, .int x3] (I, J, rf_w r, sh_w N, n)) Q := by
  exact (mc_WP.run (mc_adjs _) 7 (And.intro rfl (And.intro (by decide) (And.intro (by decide) (mc_inl (mc_WP.run (mc_adjs _) 3 (And.intro (fun c17 => (mc_WP.run (mc_adjs _) 2 (mc_WP.run (mc_adjs _) 1 (And.intro (by decide) (mc_WP.run (mc_adjs _) 1 (And.intro (fun _ => (mc_WP.run (mc_adjs _) 2 (h.1 c17))) (fun c => absurd (show ¬ (1 : Int32) = 0 by decide) c))))))) (fun c17 => (mc_WP.run (mc_adjs _) 3 (And.intro (fun c18 => (mc_WP.run (mc_adjs _) 2 (And.intro (by decide) (mc_WP.run (mc_adjs _) 1 (And.intro (fun c => absurd c (show ¬ (¬ (0 : Int32) = 0) by decide)) (fun _ => (mc_WP.run (mc_adjs _) 6 (And.intro rfl (And.intro (fun c19 => (mc_WP.run (mc_adjs _) 2 (((h.2 c17).1 c18).1 c19))) (fun c19 => (mc_WP.run (mc_adjs _) 2 (((h.2 c17).1 c18).2 c19)))))))))))) (fun c18 => (mc_WP.run (mc_adjs _) 2 (mc_WP.run (mc_adjs _) 1 (And.intro (by decide) (mc_WP.run (mc_adjs _) 1 (And.intro (fun _ => (mc_WP.run (mc_adjs _) 2 ((h.2 c17).2 c18))) (fun c => absurd (show ¬ (1 : Int32) = 0 by decide) c)))))))))))))))))
set_option maxRecDepth 20000 in
theorem bk_91_32 {x1 : Int64} {x3 : Int32} {x4 : Int32}
    (h : (x3 ≤ x4 → (Q (.inl (some (.int (I 84 10)))) (I, J, rf_w r, sh_w N, n))) ∧
        (¬ (x3 ≤ x4) →
        (vp_in (I 84 10) 800 ∧ mc_WP (91, 32, [.ref 84, .long x1, .null, .int x3, .int (x4 + (1 : Int32))], [], ((mc_up (mc_up I 91 (I 84 10).toNatClampNeg (((x1 >>> (((8 : Int32) * x4).toInt64 &&& 63)) &&& (Int64.ofNat 255)).toInt32)) 84 10 ((I 84 10) + (1 : Int32))), J, rf_w r, sh_w N, n), (0, 0)) Q))) :
    mc_WP (91, 32, [.ref 84, .long x1, .null, .int x3, .int x4], [], (I, J, rf_w r, sh_w N, n), (0, 0)) Q := by
  exact (mc_WP.run (mc_adjs _) 3 (And.intro (fun c6 => (mc_WP.run (mc_adjs _) 3 (And.intro rfl (h.1 c6)))) (fun c6 => (mc_WP.run (mc_adjs _) 10 (And.intro rfl (And.intro (by decide) (And.intro (by decide) (mc_inl (mc_WP.run (mc_adjs _) 13 (And.intro ⟨rfl, (show ¬ (91 : Nat) = 0 by decide)⟩ (And.intro rfl (And.intro (wl_st rfl (h.2 c6).1 (show 10 ≤ (91 : Nat) by decide)) (And.intro rfl (And.intro rfl (mc_WP.run (mc_adjs _) 2 (h.2 c6).2)))))))))))))))
-- 92 wipe()I inl<=6
set_option maxRecDepth 20000 in
theorem bk_92_0
    (h : Q (.inl (some (.int (I 84 10)))) ((mc_up (mc_up I 84 0 (0 : Int32)) 84 10 (0 : Int32)), J, rf_w r, sh_w N, n)) :
    mc_WP (mc_en 92 [.ref 84] (I, J, rf_w r, sh_w N, n)) Q := by
  exact (mc_WP.run (mc_adjs _) 11 (And.intro rfl (And.intro rfl (And.intro rfl h))))
-- 93 spoil(II)Z inl<=6
set_option maxRecDepth 20000 in
theorem bk_93_0 {x1 : Int32} {x2 : Int32}
    (h : (x1 < (0 : Int32) →
        (Q (.inl (some (.int (0 : Int32)))) ((mc_up I 84 0 (0 : Int32)), J, rf_w r, sh_w N, n))) ∧
        (¬ (x1 < (0 : Int32)) →
        ((x1 ≤ ((I 84 10) - (1 : Int32)) →
          (vp_in x1 800 ∧ Q (.inl (some (.int (1 : Int32)))) ((mc_up (mc_up I 84 0 (0 : Int32)) 91 x1.toNatClampNeg (x2 &&& (255 : Int32))), J, rf_w r, sh_w N, n))) ∧
          (¬ (x1 ≤ ((I 84 10) - (1 : Int32))) →
          (Q (.inl (some (.int (0 : Int32)))) ((mc_up I 84 0 (0 : Int32)), J, rf_w r, sh_w N, n)))))) :
    mc_WP (mc_en 93 [.ref 84, .int x1, .int x2] (I, J, rf_w r, sh_w N, n)) Q := by
  exact (mc_WP.run (mc_adjs _) 10 (And.intro rfl (And.intro rfl (And.intro (by decide) (And.intro (by decide) (mc_inl (mc_WP.run (mc_adjs _) 3 (And.intro (fun c15 => (mc_WP.run (mc_adjs _) 2 (mc_WP.run (mc_adjs _) 1 (And.intro (by decide) (mc_WP.run (mc_adjs _) 1 (And.intro (fun c => absurd c (show ¬ ((1 : Int32) = 0) by decide)) (fun _ => (mc_WP.run (mc_adjs _) 2 (And.intro (by decide) (h.1 c15)))))))))) (fun c15 => (mc_WP.run (mc_adjs _) 3 (And.intro (fun c16 => (mc_WP.run (mc_adjs _) 2 (And.intro (by decide) (mc_WP.run (mc_adjs _) 1 (And.intro (fun _ => (mc_WP.run (mc_adjs _) 9 (And.intro ⟨rfl, (show ¬ (91 : Nat) = 0 by decide)⟩ (And.intro (wl_st rfl ((h.2 c15).1 c16).1 (show 10 ≤ (91 : Nat) by decide)) (And.intro (by decide) ((h.2 c15).1 c16).2))))) (fun c => absurd (show (0 : Int32) = 0 by decide) c)))))) (fun c16 => (mc_WP.run (mc_adjs _) 2 (mc_WP.run (mc_adjs _) 1 (And.intro (by decide) (mc_WP.run (mc_adjs _) 1 (And.intro (fun c => absurd c (show ¬ ((1 : Int32) = 0) by decide)) (fun _ => (mc_WP.run (mc_adjs _) 2 (And.intro (by decide) ((h.2 c15).2 c16)))))))))))))))))))))
-- 94 byteAt(I)I inl<=6
set_option maxRecDepth 20000 in
theorem bk_94_0 {x1 : Int32}
    (h : (x1 < (0 : Int32) →
        (Q (.inl (some (.int (-1 : Int32)))) ((mc_up I 84 0 (0 : Int32)), J, rf_w r, sh_w N, n))) ∧
        (¬ (x1 < (0 : Int32)) →
        ((x1 ≤ ((I 84 10) - (1 : Int32)) →
          (vp_in x1 800 ∧ Q (.inl (some (.int (I 91 x1.toNatClampNeg)))) ((mc_up I 84 0 (0 : Int32)), J, rf_w r, sh_w N, n))) ∧
          (¬ (x1 ≤ ((I 84 10) - (1 : Int32))) →
          (Q (.inl (some (.int (-1 : Int32)))) ((mc_up I 84 0 (0 : Int32)), J, rf_w r, sh_w N, n)))))) :
    mc_WP (mc_en 94 [.ref 84, .int x1] (I, J, rf_w r, sh_w N, n)) Q := by
  exact (mc_WP.run (mc_adjs _) 10 (And.intro rfl (And.intro rfl (And.intro (by decide) (And.intro (by decide) (mc_inl (mc_WP.run (mc_adjs _) 3 (And.intro (fun c17 => (mc_WP.run (mc_adjs _) 2 (mc_WP.run (mc_adjs _) 1 (And.intro (by decide) (mc_WP.run (mc_adjs _) 1 (And.intro (fun c => absurd c (show ¬ ((1 : Int32) = 0) by decide)) (fun _ => (mc_WP.run (mc_adjs _) 2 (mc_WP.run (mc_adjs _) 1 (h.1 c17)))))))))) (fun c17 => (mc_WP.run (mc_adjs _) 3 (And.intro (fun c18 => (mc_WP.run (mc_adjs _) 2 (And.intro (by decide) (mc_WP.run (mc_adjs _) 1 (And.intro (fun _ => (mc_WP.run (mc_adjs _) 5 (And.intro ⟨rfl, (show ¬ (91 : Nat) = 0 by decide)⟩ (And.intro (wl_ld rfl ((h.2 c17).1 c18).1) ((h.2 c17).1 c18).2)))) (fun c => absurd (show (0 : Int32) = 0 by decide) c)))))) (fun c18 => (mc_WP.run (mc_adjs _) 2 (mc_WP.run (mc_adjs _) 1 (And.intro (by decide) (mc_WP.run (mc_adjs _) 1 (And.intro (fun c => absurd c (show ¬ ((1 : Int32) = 0) by decide)) (fun _ => (mc_WP.run (mc_adjs _) 2 (mc_WP.run (mc_adjs _) 1 ((h.2 c17).2 c18)))))))))))))))))))))
-- 95 take(II)I inl<=6
set_option maxRecDepth 20000 in
theorem bk_95_0 {x1 : Int32} {x2 : Int32}
    (h : ((I 84 22) = 0 →
        (Q (.inl (some (.int x1))) ((mc_up (mc_up I 84 22 (0 : Int32)) 84 21 ((I 84 21) + (1 : Int32))), J, rf_w r, sh_w N, n))) ∧
        (¬ ((I 84 22) = 0) →
        (((I 84 10) ≤ (I 84 21) →
          (Q (.inl (some (.int x1))) ((mc_up (mc_up I 84 22 (0 : Int32)) 84 21 ((I 84 21) + (1 : Int32))), J, rf_w r, sh_w N, n))) ∧
          (¬ ((I 84 10) ≤ (I 84 21)) →
          (vp_in (I 84 21) 800 ∧ ((I 91 (I 84 21).toNatClampNeg) < x1 →
            (Q (.inl (some (.int x1))) ((mc_up (mc_up I 84 22 (0 : Int32)) 84 21 ((I 84 21) + (1 : Int32))), J, rf_w r, sh_w N, n))) ∧
            (¬ ((I 91 (I 84 21).toNatClampNeg) < x1) →
            (((I 91 (I 84 21).toNatClampNeg) ≤ x2 →
              (vp_in (I 84 21) 800 ∧ Q (.inl (some (.int (I 91 (I 84 21).toNatClampNeg)))) ((mc_up (mc_up I 84 22 (1 : Int32)) 84 21 ((I 84 21) + (1 : Int32))), J, rf_w r, sh_w N, n))) ∧
              (¬ ((I 91 (I 84 21).toNatClampNeg) ≤ x2) →
              (Q (.inl (some (.int x1))) ((mc_up (mc_up I 84 22 (0 : Int32)) 84 21 ((I 84 21) + (1 : Int32))), J, rf_w r, sh_w N, n)))))))))) :
    mc_WP (mc_en 95 [.ref 84, .int x1, .int x2] (I, J, rf_w r, sh_w N, n)) Q := by
  exact (mc_WP.run (mc_adjs _) 4 (And.intro rfl (And.intro (fun c26 => (mc_WP.run (mc_adjs _) 5 (And.intro ⟨rfl, (by decide)⟩ (And.intro rfl (And.intro (fun _ => (mc_WP.run (mc_adjs _) 10 (And.intro rfl (And.intro rfl (h.1 c26))))) (fun c => absurd (show (0 : Int32) = 0 by decide) c)))))) (fun c26 => (mc_WP.run (mc_adjs _) 5 (And.intro rfl (And.intro rfl (And.intro (fun c27 => (mc_WP.run (mc_adjs _) 5 (And.intro ⟨rfl, (by decide)⟩ (And.intro rfl (And.intro (fun _ => (mc_WP.run (mc_adjs _) 10 (And.intro rfl (And.intro rfl ((h.2 c26).1 c27))))) (fun c => absurd (show (0 : Int32) = 0 by decide) c)))))) (fun c27 => (mc_WP.run (mc_adjs _) 8 (And.intro ⟨rfl, (show ¬ (91 : Nat) = 0 by decide)⟩ (And.intro rfl (And.intro (wl_ld rfl ((h.2 c26).2 c27).1) (And.intro (by decide) (And.intro (by decide) (mc_inl (mc_WP.run (mc_adjs _) 3 (And.intro (fun c28 => (mc_WP.run (mc_adjs _) 2 (mc_WP.run (mc_adjs _) 1 (And.intro (by decide) (mc_WP.run (mc_adjs _) 1 (And.intro (fun _ => (mc_WP.run (mc_adjs _) 5 (And.intro ⟨rfl, (by decide)⟩ (And.intro rfl (And.intro (fun _ => (mc_WP.run (mc_adjs _) 10 (And.intro rfl (And.intro rfl (((h.2 c26).2 c27).2.1 c28))))) (fun c => absurd (show (0 : Int32) = 0 by decide) c)))))) (fun c => absurd (show ¬ (1 : Int32) = 0 by decide) c))))))) (fun c28 => (mc_WP.run (mc_adjs _) 3 (And.intro (fun c29 => (mc_WP.run (mc_adjs _) 2 (And.intro (by decide) (mc_WP.run (mc_adjs _) 1 (And.intro (fun c => absurd c (show ¬ (¬ (0 : Int32) = 0) by decide)) (fun _ => (mc_WP.run (mc_adjs _) 2 (mc_WP.run (mc_adjs _) 4 (And.intro ⟨rfl, (by decide)⟩ (And.intro rfl (And.intro (fun c => absurd c (show ¬ ((1 : Int32) = 0) by decide)) (fun _ => (mc_WP.run (mc_adjs _) 6 (And.intro ⟨rfl, (show ¬ (91 : Nat) = 0 by decide)⟩ (And.intro rfl (And.intro (wl_ld rfl ((((h.2 c26).2 c27).2.2 c28).1 c29).1) (mc_WP.run (mc_adjs _) 9 (And.intro rfl (And.intro rfl ((((h.2 c26).2 c27).2.2 c28).1 c29).2))))))))))))))))))) (fun c29 => (mc_WP.run (mc_adjs _) 2 (mc_WP.run (mc_adjs _) 1 (And.intro (by decide) (mc_WP.run (mc_adjs _) 1 (And.intro (fun _ => (mc_WP.run (mc_adjs _) 5 (And.intro ⟨rfl, (by decide)⟩ (And.intro rfl (And.intro (fun _ => (mc_WP.run (mc_adjs _) 10 (And.intro rfl (And.intro rfl ((((h.2 c26).2 c27).2.2 c28).2 c29))))) (fun c => absurd (show (0 : Int32) = 0 by decide) c)))))) (fun c => absurd (show ¬ (1 : Int32) = 0 by decide) c))))))))))))))))))))))))))))
-- 96 takeColours(I)V inl<=6
set_option maxRecDepth 20000 in
theorem bk_96_0 {x1 : Int32}
    (h : mc_WP (96, 2, [.ref 84, .int x1, .int (0 : Int32), .null, .null], [], (I, J, rf_w r, sh_w N, n), (0, 0)) Q) :
    mc_WP (mc_en 96 [.ref 84, .int x1] (I, J, rf_w r, sh_w N, n)) Q := by
  exact (mc_WP.run (mc_adjs _) 2 h)
set_option maxRecDepth 20000 in
theorem bk_96_2 {x1 : Int32} {x2 : Int32} {x3 : Value} {x4 : Value}
    (h : ((16 : Int32) ≤ x2 → (Q (.inl none) (I, J, rf_w r, sh_w N, n))) ∧
        (¬ ((16 : Int32) ≤ x2) →
        (mc_WP (96, 13, [.ref 84, .int x1, .int x2, .int (0 : Int32), .int (0 : Int32)], [], (I, J, rf_w r, sh_w N, n), (0, 0)) Q))) :
    mc_WP (96, 2, [.ref 84, .int x1, .int x2, x3, x4], [], (I, J, rf_w r, sh_w N, n), (0, 0)) Q := by
  exact (mc_WP.run (mc_adjs _) 3 (And.intro (fun c4 => (mc_WP.run (mc_adjs _) 1 (h.1 c4))) (fun c4 => (mc_WP.run (mc_adjs _) 4 (h.2 c4)))))
set_option maxRecDepth 20000 in
theorem bk_96_13 {x1 : Int32} {x2 : Int32} {x3 : Int32} {x4 : Int32}
    (h : ((3 : Int32) ≤ x4 →
        (vp_in (((16 : Int32) * (x1 + (1 : Int32))) + x2) 80 ∧ mc_WP (96, 2, [.ref 84, .int x1, .int (x2 + (1 : Int32)), .int x3, .int x4], [], ((mc_up I 89 (((16 : Int32) * (x1 + (1 : Int32))) + x2).toNatClampNeg x3), J, rf_w r, sh_w N, n), (0, 0)) Q)) ∧
        (¬ ((3 : Int32) ≤ x4) →
        (vp_in (((9 : Int32) * (x1 + (1 : Int32))) + (4 : Int32)) 45 ∧ (((1 : Int32) <<< ((I 88 (((9 : Int32) * (x1 + (1 : Int32))) + (4 : Int32)).toNatClampNeg) &&& 31)) ≤ x2 →
          (vp_in (((16 : Int32) * (x1 + (1 : Int32))) + x2) 80 ∧ mc_WP (96, 2, [.ref 84, .int x1, .int (x2 + (1 : Int32)), .int x3, .int x4], [], ((mc_up I 89 (((16 : Int32) * (x1 + (1 : Int32))) + x2).toNatClampNeg x3), J, rf_w r, sh_w N, n), (0, 0)) Q)) ∧
          (¬ (((1 : Int32) <<< ((I 88 (((9 : Int32) * (x1 + (1 : Int32))) + (4 : Int32)).toNatClampNeg) &&& 31)) ≤ x2) →
          (∃ R : mc_Q, mc_WP (mc_en 95 [.ref 84, .int (0 : Int32), .int (255 : Int32)] (I, J, rf_w r, sh_w N, n)) R ∧ (∀ v t, R (.inl v) t → mc_WP (96, 50, [.ref 84, .int x1, .int x2, .int x3, .int x4], v.toList ++ [.int (x3 <<< ((8 : Int32) &&& 31))], t, (0, 0)) Q) ∧ (∀ k t, R (.inr k) t → Q (.inr k) t)))))) :
    mc_WP (96, 13, [.ref 84, .int x1, .int x2, .int x3, .int x4], [], (I, J, rf_w r, sh_w N, n), (0, 0)) Q := by
  exact (mc_WP.run (mc_adjs _) 3 (And.intro (fun c6 => (mc_WP.run (mc_adjs _) 13 (And.intro ⟨rfl, (show ¬ (89 : Nat) = 0 by decide)⟩ (And.intro (wl_st rfl (h.1 c6).1 (show 10 ≤ (89 : Nat) by decide)) (h.1 c6).2)))) (fun c6 => (mc_WP.run (mc_adjs _) 14 (And.intro ⟨rfl, (show ¬ (88 : Nat) = 0 by decide)⟩ (And.intro (wl_ld rfl (h.2 c6).1) (And.intro (fun c7 => (mc_WP.run (mc_adjs _) 13 (And.intro ⟨rfl, (show ¬ (89 : Nat) = 0 by decide)⟩ (And.intro (wl_st rfl ((h.2 c6).2.1 c7).1 (show 10 ≤ (89 : Nat) by decide)) ((h.2 c6).2.1 c7).2)))) (fun c7 => (mc_WP.run (mc_adjs _) 7 (And.intro rfl (And.intro (by decide) (And.intro (by decide) ((h.2 c6).2.2 c7)))))))))))))
set_option maxRecDepth 20000 in
theorem bk_96_50 {x1 : Int32} {x2 : Int32} {x3 : Int32} {x4 : Int32} {y0 : Int32} {y1 : Int32}
    (h : mc_WP (96, 13, [.ref 84, .int x1, .int x2, .int (y0 ||| y1), .int (x4 + (1 : Int32))], [], (I, J, rf_w r, sh_w N, n), (0, 0)) Q) :
    mc_WP (96, 50, [.ref 84, .int x1, .int x2, .int x3, .int x4], [.int y1, .int y0], (I, J, rf_w r, sh_w N, n), (0, 0)) Q := by
  exact (mc_WP.run (mc_adjs _) 4 h)
-- 97 takeComment()V inl<=6
set_option maxRecDepth 20000 in
theorem bk_97_0
    (h : ∃ R : mc_Q, mc_WP (mc_en 95 [.ref 84, .int (0 : Int32), .int (255 : Int32)] (I, J, rf_w r, sh_w N, n)) R ∧ (∀ v t, R (.inl v) t → mc_WP (97, 8, [.ref 84, .null], v.toList ++ [], t, (0, 0)) Q) ∧ (∀ k t, R (.inr k) t → Q (.inr k) t)) :
    mc_WP (mc_en 97 [.ref 84] (I, J, rf_w r, sh_w N, n)) Q := by
  exact (mc_WP.run (mc_adjs _) 4 (And.intro rfl (And.intro (by decide) (And.intro (by decide) h))))
set_option maxRecDepth 20000 in
theorem bk_97_8 {y0 : Int32}
    (h : mc_WP (97, 9, [.ref 84, .int y0], [], (I, J, rf_w r, sh_w N, n), (0, 0)) Q) :
    mc_WP (97, 8, [.ref 84, .null], [.int y0], (I, J, rf_w r, sh_w N, n), (0, 0)) Q := by
  exact (mc_WP.run (mc_adjs _) 1 h)
set_option maxRecDepth 20000 in
theorem bk_97_9 {x1 : Int32}
    (h : (x1 ≤ 0 → (Q (.inl none) (I, J, rf_w r, sh_w N, n))) ∧
        (¬ (x1 ≤ 0) →
        (((I 84 22) = 0 → (Q (.inl none) (I, J, rf_w r, sh_w N, n))) ∧
          (¬ ((I 84 22) = 0) →
          (∃ R : mc_Q, mc_WP (mc_en 95 [.ref 84, .int (0 : Int32), .int (255 : Int32)] ((mc_up I 84 21 ((I 84 21) + x1)), J, rf_w r, sh_w N, n)) R ∧ (∀ v t, R (.inl v) t → mc_WP (97, 38, [.ref 84, .int x1], v.toList ++ [], t, (0, 0)) Q) ∧ (∀ k t, R (.inr k) t → Q (.inr k) t)))))) :
    mc_WP (97, 9, [.ref 84, .int x1], [], (I, J, rf_w r, sh_w N, n), (0, 0)) Q := by
  exact (mc_WP.run (mc_adjs _) 2 (And.intro (fun c6 => (mc_WP.run (mc_adjs _) 1 (h.1 c6))) (fun c6 => (mc_WP.run (mc_adjs _) 3 (And.intro rfl (And.intro (fun c7 => (mc_WP.run (mc_adjs _) 1 ((h.2 c6).1 c7))) (fun c7 => (mc_WP.run (mc_adjs _) 10 (And.intro rfl (And.intro rfl (And.intro rfl (And.intro (by decide) (And.intro (by decide) ((h.2 c6).2 c7))))))))))))))
set_option maxRecDepth 20000 in
theorem bk_97_38 {x1 : Int32} {y0 : Int32}
    (h : mc_WP (97, 9, [.ref 84, .int y0], [], (I, J, rf_w r, sh_w N, n), (0, 0)) Q) :
    mc_WP (97, 38, [.ref 84, .int x1], [.int y0], (I, J, rf_w r, sh_w N, n), (0, 0)) Q := by
  exact (mc_WP.run (mc_adjs _) 2 h)
-- 98 takeCode()I inl<=6
set_option maxRecDepth 20000 in
theorem bk_98_0
    (h : ∃ R : mc_Q, mc_WP (mc_en 79 [.ref 84] (I, J, rf_w r, sh_w N, n)) R ∧ (∀ v t, R (.inl v) t → mc_WP (98, 4, [.ref 84, .null, .null], v.toList ++ [], t, (0, 0)) Q) ∧ (∀ k t, R (.inr k) t → Q (.inr k) t)) :
    mc_WP (mc_en 98 [.ref 84] (I, J, rf_w r, sh_w N, n)) Q := by
  exact (mc_WP.run (mc_adjs _) 2 (And.intro rfl (And.intro (by decide) (And.intro (by decide) h))))
set_option maxRecDepth 20000 in
theorem bk_98_4 {y0 : Int32}
    (h : mc_WP (98, 5, [.ref 84, .int y0, .null], [], (I, J, rf_w r, sh_w N, n), (0, 0)) Q) :
    mc_WP (98, 4, [.ref 84, .null, .null], [.int y0], (I, J, rf_w r, sh_w N, n), (0, 0)) Q := by
  exact (mc_WP.run (mc_adjs _) 1 h)
set_option maxRecDepth 20000 in
theorem bk_98_5 {x1 : Int32}
    (h : (x1 ≤ (I 84 25) →
        (((I 84 22) = 0 →
          (Q (.inl (some (.int (-1 : Int32)))) ((mc_up (mc_up I 84 24 ((I 84 24) >>> (x1 &&& 31))) 84 25 ((I 84 25) - x1)), J, rf_w r, sh_w N, n))) ∧
          (¬ ((I 84 22) = 0) →
          (Q (.inl (some (.int ((I 84 24) &&& (((1 : Int32) <<< (x1 &&& 31)) - (1 : Int32)))))) ((mc_up (mc_up I 84 24 ((I 84 24) >>> (x1 &&& 31))) 84 25 ((I 84 25) - x1)), J, rf_w r, sh_w N, n))))) ∧
        (¬ (x1 ≤ (I 84 25)) →
        (((I 84 22) = 0 →
          (((I 84 22) = 0 →
            (Q (.inl (some (.int (-1 : Int32)))) ((mc_up (mc_up I 84 24 ((I 84 24) >>> (x1 &&& 31))) 84 25 ((I 84 25) - x1)), J, rf_w r, sh_w N, n))) ∧
            (¬ ((I 84 22) = 0) →
            (Q (.inl (some (.int ((I 84 24) &&& (((1 : Int32) <<< (x1 &&& 31)) - (1 : Int32)))))) ((mc_up (mc_up I 84 24 ((I 84 24) >>> (x1 &&& 31))) 84 25 ((I 84 25) - x1)), J, rf_w r, sh_w N, n))))) ∧
          (¬ ((I 84 22) = 0) →
          ((¬ (I 84 23) = 0 →
            (∃ R : mc_Q, mc_WP (mc_en 95 [.ref 84, .int (0 : Int32), .int (255 : Int32)] (I, J, rf_w r, sh_w N, n)) R ∧ (∀ v t, R (.inl v) t → mc_WP (98, 52, [.ref 84, .int x1, .null], v.toList ++ [.int (I 84 24), .ref 84], t, (0, 0)) Q) ∧ (∀ k t, R (.inr k) t → Q (.inr k) t))) ∧
            (¬ (¬ (I 84 23) = 0) →
            (∃ R : mc_Q, mc_WP (mc_en 95 [.ref 84, .int (1 : Int32), .int (255 : Int32)] (I, J, rf_w r, sh_w N, n)) R ∧ (∀ v t, R (.inl v) t → mc_WP (98, 36, [.ref 84, .int x1, .null], v.toList ++ [.ref 84], t, (0, 0)) Q) ∧ (∀ k t, R (.inr k) t → Q (.inr k) t)))))))) :
    mc_WP (98, 5, [.ref 84, .int x1, .null], [], (I, J, rf_w r, sh_w N, n), (0, 0)) Q := by
  exact (mc_WP.run (mc_adjs _) 4 (And.intro rfl (And.intro (fun c14 => (mc_WP.run (mc_adjs _) 24 (And.intro rfl (And.intro rfl (And.intro rfl (And.intro rfl (And.intro rfl (And.intro rfl (And.intro (fun c15 => (mc_WP.run (mc_adjs _) 2 ((h.1 c14).1 c15))) (fun c15 => (mc_WP.run (mc_adjs _) 2 (mc_WP.run (mc_adjs _) 1 ((h.1 c14).2 c15))))))))))))) (fun c14 => (mc_WP.run (mc_adjs _) 3 (And.intro rfl (And.intro (fun c16 => (mc_WP.run (mc_adjs _) 24 (And.intro rfl (And.intro rfl (And.intro rfl (And.intro rfl (And.intro rfl (And.intro rfl (And.intro (fun c17 => (mc_WP.run (mc_adjs _) 2 (((h.2 c14).1 c16).1 c17))) (fun c17 => (mc_WP.run (mc_adjs _) 2 (mc_WP.run (mc_adjs _) 1 (((h.2 c14).1 c16).2 c17))))))))))))) (fun c16 => (mc_WP.run (mc_adjs _) 3 (And.intro rfl (And.intro (fun c18 => (mc_WP.run (mc_adjs _) 7 (And.intro rfl (And.intro rfl (And.intro (by decide) (And.intro (by decide) (((h.2 c14).2 c16).1 c18))))))) (fun c18 => (mc_WP.run (mc_adjs _) 5 (And.intro rfl (And.intro (by decide) (And.intro (by decide) (((h.2 c14).2 c16).2 c18)))))))))))))))))
set_option maxRecDepth 20000 in
theorem bk_98_36 {x1 : Int32} {y1 : Int32}
    (h : ∃ R : mc_Q, mc_WP (mc_en 95 [.ref 84, .int (0 : Int32), .int (255 : Int32)] ((mc_up I 84 23 y1), J, rf_w r, sh_w N, n)) R ∧ (∀ v t, R (.inl v) t → mc_WP (98, 52, [.ref 84, .int x1, .null], v.toList ++ [.int (I 84 24), .ref 84], t, (0, 0)) Q) ∧ (∀ k t, R (.inr k) t → Q (.inr k) t)) :
    mc_WP (98, 36, [.ref 84, .int x1, .null], [.int y1, .ref 84], (I, J, rf_w r, sh_w N, n), (0, 0)) Q := by
  exact (mc_WP.run (mc_adjs _) 8 (And.intro rfl (And.intro rfl (And.intro rfl (And.intro (by decide) (And.intro (by decide) h))))))
set_option maxRecDepth 20000 in
theorem bk_98_52 {x1 : Int32} {y1 : Int32} {y2 : Int32}
    (h : mc_WP (98, 5, [.ref 84, .int x1, .null], [], ((mc_up (mc_up (mc_up I 84 24 (y1 ||| (y2 <<< ((I 84 25) &&& 31)))) 84 25 ((I 84 25) + (8 : Int32))) 84 23 ((I 84 23) - (1 : Int32))), J, rf_w r, sh_w N, n), (0, 0)) Q) :
    mc_WP (98, 52, [.ref 84, .int x1, .null], [.int y2, .int y1, .ref 84], (I, J, rf_w r, sh_w N, n), (0, 0)) Q := by
  exact (mc_WP.run (mc_adjs _) 18 (And.intro rfl (And.intro rfl (And.intro rfl (And.intro rfl (And.intro rfl (And.intro rfl h)))))))
-- 99 comes(II)V inl<=6
set_option maxRecDepth 20000 in
theorem bk_99_0 {x1 : Int32} {x2 : Int32}
    (h : vp_in x1 64 ∧ ((I 84 22) = 0 →
        (mc_WP (99, 43, [.ref 84, .int x1, .int x2, .int x1, .int (I 98 x1.toNatClampNeg), .int ((I 98 x1.toNatClampNeg) - (1 : Int32))], [], ((mc_up I 84 22 (0 : Int32)), J, rf_w r, sh_w N, n), (0, 0)) Q)) ∧
        (¬ ((I 84 22) = 0) →
        ((x2 < ((I 84 26) + (I 98 x1.toNatClampNeg)) →
          (mc_WP (99, 43, [.ref 84, .int x1, .int x2, .int x1, .int (I 98 x1.toNatClampNeg), .int ((I 98 x1.toNatClampNeg) - (1 : Int32))], [], ((mc_up I 84 22 (0 : Int32)), J, rf_w r, sh_w N, n), (0, 0)) Q)) ∧
          (¬ (x2 < ((I 84 26) + (I 98 x1.toNatClampNeg))) →
          (mc_WP (99, 43, [.ref 84, .int x1, .int x2, .int x1, .int (I 98 x1.toNatClampNeg), .int ((I 98 x1.toNatClampNeg) - (1 : Int32))], [], ((mc_up I 84 22 (1 : Int32)), J, rf_w r, sh_w N, n), (0, 0)) Q))))) :
    mc_WP (mc_en 99 [.ref 84, .int x1, .int x2] (I, J, rf_w r, sh_w N, n)) Q := by
  exact (mc_WP.run (mc_adjs _) 11 (And.intro ⟨rfl, (show ¬ (98 : Nat) = 0 by decide)⟩ (And.intro (wl_ld rfl h.1) (And.intro rfl (And.intro (fun c7 => (mc_WP.run (mc_adjs _) 6 (And.intro ⟨rfl, (by decide)⟩ (h.2.1 c7)))) (fun c7 => (mc_WP.run (mc_adjs _) 6 (And.intro rfl (And.intro (fun c8 => (mc_WP.run (mc_adjs _) 6 (And.intro ⟨rfl, (by decide)⟩ ((h.2.2 c7).1 c8)))) (fun c8 => (mc_WP.run (mc_adjs _) 2 (mc_WP.run (mc_adjs _) 5 (And.intro ⟨rfl, (by decide)⟩ ((h.2.2 c7).2 c8))))))))))))))
set_option maxRecDepth 20000 in
theorem bk_99_43 {x1 : Int32} {x2 : Int32} {x3 : Int32} {x4 : Int32} {x5 : Int32}
    (h : (x5 < 0 →
        (Q (.inl none) ((mc_up I 84 26 ((I 84 26) + x4)), J, rf_w r, sh_w N, n))) ∧
        (¬ (x5 < 0) →
        (((I 84 22) = 0 →
          (Q (.inl none) ((mc_up I 84 26 ((I 84 26) + x4)), J, rf_w r, sh_w N, n))) ∧
          (¬ ((I 84 22) = 0) →
          (vp_in x3 64 ∧ vp_in ((I 84 26) + x5) 64 ∧ vp_in x3 64 ∧ mc_WP (99, 43, [.ref 84, .int x1, .int x2, .int (I 95 x3.toNatClampNeg), .int x4, .int (x5 + (-1 : Int32))], [], ((mc_up I 99 ((I 84 26) + x5).toNatClampNeg (I 96 x3.toNatClampNeg)), J, rf_w r, sh_w N, n), (0, 0)) Q))))) :
    mc_WP (99, 43, [.ref 84, .int x1, .int x2, .int x3, .int x4, .int x5], [], (I, J, rf_w r, sh_w N, n), (0, 0)) Q := by
  exact (mc_WP.run (mc_adjs _) 2 (And.intro (fun c6 => (mc_WP.run (mc_adjs _) 7 (And.intro rfl (And.intro rfl (h.1 c6))))) (fun c6 => (mc_WP.run (mc_adjs _) 3 (And.intro rfl (And.intro (fun c7 => (mc_WP.run (mc_adjs _) 7 (And.intro rfl (And.intro rfl ((h.2 c6).1 c7))))) (fun c7 => (mc_WP.run (mc_adjs _) 18 (And.intro ⟨rfl, (show ¬ (99 : Nat) = 0 by decide)⟩ (And.intro rfl (And.intro ⟨rfl, (show ¬ (96 : Nat) = 0 by decide)⟩ (And.intro (wl_ld rfl ((h.2 c6).2 c7).1) (And.intro (wl_st rfl ((h.2 c6).2 c7).2.1 (show 10 ≤ (99 : Nat) by decide)) (And.intro ⟨rfl, (show ¬ (95 : Nat) = 0 by decide)⟩ (And.intro (wl_ld rfl ((h.2 c6).2 c7).2.2.1) ((h.2 c6).2 c7).2.2.2)))))))))))))))
-- 100 takeData(III)V joins inl<=1
set_option maxRecDepth 20000 in
theorem bk_100_0 {x1 : Int32} {x2 : Int32} {x3 : Int32}
    (h : ∃ R : mc_Q, mc_WP (mc_en 77 [.ref 84, .int x1] (I, J, rf_w r, sh_w N, n)) R ∧ (∀ v t, R (.inl v) t → mc_WP (100, 5, [.ref 84, .int x1, .int x2, .int x3, .null, .null, .null, .null, .null], v.toList ++ [], t, (0, 0)) Q) ∧ (∀ k t, R (.inr k) t → Q (.inr k) t)) :
    mc_WP (mc_en 100 [.ref 84, .int x1, .int x2, .int x3] (I, J, rf_w r, sh_w N, n)) Q := by
  exact (mc_WP.run (mc_adjs _) 3 (And.intro rfl (And.intro (by decide) (And.intro (by decide) h))))
set_option maxRecDepth 20000 in
theorem bk_100_5 {x1 : Int32} {x2 : Int32} {x3 : Int32}
    (h : mc_WP (100, 31, [.ref 84, .int x1, .int x2, .int x3, .int (0 : Int32), .int (0 : Int32), .null, .null, .null], [], ((mc_up (mc_up (mc_up (mc_up I 84 24 (0 : Int32)) 84 25 (0 : Int32)) 84 23 (0 : Int32)) 84 26 (0 : Int32)), J, rf_w r, sh_w N, n), (0, 0)) Q) :
    mc_WP (100, 5, [.ref 84, .int x1, .int x2, .int x3, .null, .null, .null, .null, .null], [], (I, J, rf_w r, sh_w N, n), (0, 0)) Q := by
  exact (mc_WP.run (mc_adjs _) 16 (And.intro rfl (And.intro rfl (And.intro rfl (And.intro rfl h)))))
set_option maxRecDepth 20000 in
theorem bk_100_31 {x1 : Int32} {x2 : Int32} {x3 : Int32} {x4 : Int32} {x5 : Int32} {x6 : Value} {x7 : Value} {x8 : Value}
    (h : ((I 84 22) = 0 →
        (mc_WP (100, 280, [.ref 84, .int x1, .int x2, .int x3, .int x4, .int x5, x6, x7, x8], [], (I, J, rf_w r, sh_w N, n), (0, 0)) Q)) ∧
        (¬ ((I 84 22) = 0) →
        ((¬ x5 = 0 →
          (mc_WP (100, 280, [.ref 84, .int x1, .int x2, .int x3, .int x4, .int x5, x6, x7, x8], [], (I, J, rf_w r, sh_w N, n), (0, 0)) Q)) ∧
          (¬ (¬ x5 = 0) →
          (∃ R : mc_Q, mc_WP (mc_en 98 [.ref 84] (I, J, rf_w r, sh_w N, n)) R ∧ (∀ v t, R (.inl v) t → mc_WP (100, 47, [.ref 84, .int x1, .int x2, .int x3, .int x4, .int x5, x6, x7, x8], v.toList ++ [], t, (0, 0)) Q) ∧ (∀ k t, R (.inr k) t → Q (.inr k) t)))))) :
    mc_WP (100, 31, [.ref 84, .int x1, .int x2, .int x3, .int x4, .int x5, x6, x7, x8], [], (I, J, rf_w r, sh_w N, n), (0, 0)) Q := by
  exact (mc_WP.run (mc_adjs _) 3 (And.intro rfl (And.intro (fun c4 => (h.1 c4)) (fun c4 => (mc_WP.run (mc_adjs _) 2 (And.intro (fun c5 => ((h.2 c4).1 c5)) (fun c5 => (mc_WP.run (mc_adjs _) 2 (And.intro rfl (And.intro (by decide) (And.intro (by decide) ((h.2 c4).2 c5))))))))))))
set_option maxRecDepth 20000 in
theorem bk_100_47 {x1 : Int32} {x2 : Int32} {x3 : Int32} {x4 : Int32} {x5 : Int32} {x6 : Value} {x7 : Value} {x8 : Value} {y0 : Int32}
    (h : ((I 84 22) = 0 →
        (mc_WP (100, 80, [.ref 84, .int x1, .int x2, .int x3, .int x4, .int x5, .int y0, x7, x8], [], (I, J, rf_w r, sh_w N, n), (0, 0)) Q)) ∧
        (¬ ((I 84 22) = 0) →
        ((y0 = (I 84 19) →
          (mc_WP (100, 80, [.ref 84, .int x1, .int x2, .int x3, .int x4, .int x5, .int y0, x7, x8], [], (I, J, rf_w r, sh_w N, n), (0, 0)) Q)) ∧
          (¬ (y0 = (I 84 19)) →
          ((y0 = ((I 84 19) + (1 : Int32)) →
            (mc_WP (100, 80, [.ref 84, .int x1, .int x2, .int x3, .int x4, .int x5, .int y0, x7, x8], [], (I, J, rf_w r, sh_w N, n), (0, 0)) Q)) ∧
            (¬ (y0 = ((I 84 19) + (1 : Int32))) →
            (mc_WP (100, 81, [.ref 84, .int x1, .int x2, .int x3, .int x4, .int x5, .int y0, x7, x8], [.int (1 : Int32)], (I, J, rf_w r, sh_w N, n), (0, 0)) Q))))))) :
    mc_WP (100, 47, [.ref 84, .int x1, .int x2, .int x3, .int x4, .int x5, x6, x7, x8], [.int y0], (I, J, rf_w r, sh_w N, n), (0, 0)) Q := by
  exact (mc_WP.run (mc_adjs _) 4 (And.intro rfl (And.intro (fun c5 => (h.1 c5)) (fun c5 => (mc_WP.run (mc_adjs _) 4 (And.intro rfl (And.intro (fun c6 => ((h.2 c5).1 c6)) (fun c6 => (mc_WP.run (mc_adjs _) 6 (And.intro rfl (And.intro (fun c7 => (((h.2 c5).2 c6).1 c7)) (fun c7 => (mc_WP.run (mc_adjs _) 2 (((h.2 c5).2 c6).2 c7))))))))))))))
set_option maxRecDepth 20000 in
theorem bk_100_80 {x1 : Int32} {x2 : Int32} {x3 : Int32} {x4 : Int32} {x5 : Int32} {x6 : Int32} {x7 : Value} {x8 : Value}
    (h : mc_WP (100, 81, [.ref 84, .int x1, .int x2, .int x3, .int x4, .int x5, .int x6, x7, x8], [.int (0 : Int32)], (I, J, rf_w r, sh_w N, n), (0, 0)) Q) :
    mc_WP (100, 80, [.ref 84, .int x1, .int x2, .int x3, .int x4, .int x5, .int x6, x7, x8], [], (I, J, rf_w r, sh_w N, n), (0, 0)) Q := by
  exact (mc_WP.run (mc_adjs _) 1 h)
set_option maxRecDepth 20000 in
theorem bk_100_81 {x1 : Int32} {x2 : Int32} {x3 : Int32} {x4 : Int32} {x5 : Int32} {x6 : Int32} {x7 : Value} {x8 : Value} {y0 : Int32}
    (h : ((I 84 22) = 0 →
        (mc_WP (100, 109, [.ref 84, .int x1, .int x2, .int x3, .int x4, .int x5, .int x6, .int y0, x8], [.ref 84], (I, J, rf_w r, sh_w N, n), (0, 0)) Q)) ∧
        (¬ ((I 84 22) = 0) →
        ((¬ x4 = 0 →
          (mc_WP (100, 105, [.ref 84, .int x1, .int x2, .int x3, .int x4, .int x5, .int x6, .int y0, x8], [.ref 84], (I, J, rf_w r, sh_w N, n), (0, 0)) Q)) ∧
          (¬ (¬ x4 = 0) →
          ((¬ x6 = (I 84 19) →
            (mc_WP (100, 109, [.ref 84, .int x1, .int x2, .int x3, .int x4, .int x5, .int x6, .int y0, x8], [.ref 84], (I, J, rf_w r, sh_w N, n), (0, 0)) Q)) ∧
            (¬ (¬ x6 = (I 84 19)) →
            (mc_WP (100, 105, [.ref 84, .int x1, .int x2, .int x3, .int x4, .int x5, .int x6, .int y0, x8], [.ref 84], (I, J, rf_w r, sh_w N, n), (0, 0)) Q))))))) :
    mc_WP (100, 81, [.ref 84, .int x1, .int x2, .int x3, .int x4, .int x5, .int x6, x7, x8], [.int y0], (I, J, rf_w r, sh_w N, n), (0, 0)) Q := by
  exact (mc_WP.run (mc_adjs _) 5 (And.intro rfl (And.intro (fun c4 => (h.1 c4)) (fun c4 => (mc_WP.run (mc_adjs _) 2 (And.intro (fun c5 => ((h.2 c4).1 c5)) (fun c5 => (mc_WP.run (mc_adjs _) 4 (And.intro rfl (And.intro (fun c6 => (((h.2 c4).2 c5).1 c6)) (fun c6 => (((h.2 c4).2 c5).2 c6))))))))))))
set_option maxRecDepth 20000 in
theorem bk_100_105 {x1 : Int32} {x2 : Int32} {x3 : Int32} {x4 : Int32} {x5 : Int32} {x6 : Int32} {x7 : Int32} {x8 : Value}
    (h : mc_WP (100, 110, [.ref 84, .int x1, .int x2, .int x3, .int x4, .int x5, .int x6, .int x7, x8], [.int (1 : Int32), .ref 84], (I, J, rf_w r, sh_w N, n), (0, 0)) Q) :
    mc_WP (100, 105, [.ref 84, .int x1, .int x2, .int x3, .int x4, .int x5, .int x6, .int x7, x8], [.ref 84], (I, J, rf_w r, sh_w N, n), (0, 0)) Q := by
  exact (mc_WP.run (mc_adjs _) 2 h)
set_option maxRecDepth 20000 in
theorem bk_100_109 {x1 : Int32} {x2 : Int32} {x3 : Int32} {x4 : Int32} {x5 : Int32} {x6 : Int32} {x7 : Int32} {x8 : Value}
    (h : mc_WP (100, 110, [.ref 84, .int x1, .int x2, .int x3, .int x4, .int x5, .int x6, .int x7, x8], [.int (0 : Int32), .ref 84], (I, J, rf_w r, sh_w N, n), (0, 0)) Q) :
    mc_WP (100, 109, [.ref 84, .int x1, .int x2, .int x3, .int x4, .int x5, .int x6, .int x7, x8], [.ref 84], (I, J, rf_w r, sh_w N, n), (0, 0)) Q := by
  exact (mc_WP.run (mc_adjs _) 1 h)
set_option maxRecDepth 20000 in
theorem bk_100_110 {x1 : Int32} {x2 : Int32} {x3 : Int32} {x4 : Int32} {x5 : Int32} {x6 : Int32} {x7 : Int32} {x8 : Value} {y1 : Int32}
    (h : (y1 = 0 ∨ y1 = 1) ∧ (x7 = 0 →
        (mc_WP (100, 147, [.ref 84, .int x1, .int x2, .int x3, .int x4, .int x5, .int x6, .int x7, x8], [], ((mc_up I 84 22 y1), J, rf_w r, sh_w N, n), (0, 0)) Q)) ∧
        (¬ (x7 = 0) →
        (((I 84 20) < 0 →
          (mc_WP (100, 147, [.ref 84, .int x1, .int x2, .int x3, .int x4, .int x5, .int x6, .int x7, x8], [], ((mc_up I 84 22 y1), J, rf_w r, sh_w N, n), (0, 0)) Q)) ∧
          (¬ ((I 84 20) < 0) →
          (((64 : Int32) ≤ (I 84 18) →
            (mc_WP (100, 147, [.ref 84, .int x1, .int x2, .int x3, .int x4, .int x5, .int x6, .int x7, x8], [], ((mc_up I 84 22 y1), J, rf_w r, sh_w N, n), (0, 0)) Q)) ∧
            (¬ ((64 : Int32) ≤ (I 84 18)) →
            ((¬ x6 = (I 84 18) →
              (mc_WP (100, 147, [.ref 84, .int x1, .int x2, .int x3, .int x4, .int x5, .int x6, .int x7, x8], [], ((mc_up I 84 22 y1), J, rf_w r, sh_w N, n), (0, 0)) Q)) ∧
              (¬ (¬ x6 = (I 84 18)) →
              (mc_WP (100, 148, [.ref 84, .int x1, .int x2, .int x3, .int x4, .int x5, .int x6, .int x7, x8], [.int (1 : Int32)], ((mc_up I 84 22 y1), J, rf_w r, sh_w N, n), (0, 0)) Q))))))))) :
    mc_WP (100, 110, [.ref 84, .int x1, .int x2, .int x3, .int x4, .int x5, .int x6, .int x7, x8], [.int y1, .ref 84], (I, J, rf_w r, sh_w N, n), (0, 0)) Q := by
  exact (mc_WP.run (mc_adjs _) 3 (And.intro ⟨rfl, h.1⟩ (And.intro (fun c6 => (h.2.1 c6)) (fun c6 => (mc_WP.run (mc_adjs _) 3 (And.intro rfl (And.intro (fun c7 => ((h.2.2 c6).1 c7)) (fun c7 => (mc_WP.run (mc_adjs _) 4 (And.intro rfl (And.intro (fun c8 => (((h.2.2 c6).2 c7).1 c8)) (fun c8 => (mc_WP.run (mc_adjs _) 4 (And.intro rfl (And.intro (fun c9 => ((((h.2.2 c6).2 c7).2 c8).1 c9)) (fun c9 => (mc_WP.run (mc_adjs _) 2 ((((h.2.2 c6).2 c7).2 c8).2 c9))))))))))))))))))
set_option maxRecDepth 20000 in
theorem bk_100_147 {x1 : Int32} {x2 : Int32} {x3 : Int32} {x4 : Int32} {x5 : Int32} {x6 : Int32} {x7 : Int32} {x8 : Value}
    (h : mc_WP (100, 148, [.ref 84, .int x1, .int x2, .int x3, .int x4, .int x5, .int x6, .int x7, x8], [.int (0 : Int32)], (I, J, rf_w r, sh_w N, n), (0, 0)) Q) :
    mc_WP (100, 147, [.ref 84, .int x1, .int x2, .int x3, .int x4, .int x5, .int x6, .int x7, x8], [], (I, J, rf_w r, sh_w N, n), (0, 0)) Q := by
  exact (mc_WP.run (mc_adjs _) 1 h)
set_option maxRecDepth 20000 in
theorem bk_100_148 {x1 : Int32} {x2 : Int32} {x3 : Int32} {x4 : Int32} {x5 : Int32} {x6 : Int32} {x7 : Int32} {x8 : Value} {y0 : Int32}
    (h : ((I 84 22) = 0 →
        (mc_WP (100, 197, [.ref 84, .int x1, .int x2, .int x3, .int x4, .int x5, .int x6, .int x7, .int y0], [.ref 84], (I, J, rf_w r, sh_w N, n), (0, 0)) Q)) ∧
        (¬ ((I 84 22) = 0) →
        ((x7 = 0 →
          (mc_WP (100, 193, [.ref 84, .int x1, .int x2, .int x3, .int x4, .int x5, .int x6, .int x7, .int y0], [.ref 84], (I, J, rf_w r, sh_w N, n), (0, 0)) Q)) ∧
          (¬ (x7 = 0) →
          ((x6 < (I 84 19) →
            (mc_WP (100, 193, [.ref 84, .int x1, .int x2, .int x3, .int x4, .int x5, .int x6, .int x7, .int y0], [.ref 84], (I, J, rf_w r, sh_w N, n), (0, 0)) Q)) ∧
            (¬ (x6 < (I 84 19)) →
            (((I 84 18) ≤ x6 →
              (mc_WP (100, 188, [.ref 84, .int x1, .int x2, .int x3, .int x4, .int x5, .int x6, .int x7, .int y0], [.ref 84], (I, J, rf_w r, sh_w N, n), (0, 0)) Q)) ∧
              (¬ ((I 84 18) ≤ x6) →
              ((0 ≤ (I 84 20) →
                (mc_WP (100, 193, [.ref 84, .int x1, .int x2, .int x3, .int x4, .int x5, .int x6, .int x7, .int y0], [.ref 84], (I, J, rf_w r, sh_w N, n), (0, 0)) Q)) ∧
                (¬ (0 ≤ (I 84 20)) →
                (mc_WP (100, 188, [.ref 84, .int x1, .int x2, .int x3, .int x4, .int x5, .int x6, .int x7, .int y0], [.ref 84], (I, J, rf_w r, sh_w N, n), (0, 0)) Q))))))))))) :
    mc_WP (100, 148, [.ref 84, .int x1, .int x2, .int x3, .int x4, .int x5, .int x6, .int x7, x8], [.int y0], (I, J, rf_w r, sh_w N, n), (0, 0)) Q := by
  exact (mc_WP.run (mc_adjs _) 5 (And.intro rfl (And.intro (fun c6 => (h.1 c6)) (fun c6 => (mc_WP.run (mc_adjs _) 2 (And.intro (fun c7 => ((h.2 c6).1 c7)) (fun c7 => (mc_WP.run (mc_adjs _) 4 (And.intro rfl (And.intro (fun c8 => (((h.2 c6).2 c7).1 c8)) (fun c8 => (mc_WP.run (mc_adjs _) 4 (And.intro rfl (And.intro (fun c9 => ((((h.2 c6).2 c7).2 c8).1 c9)) (fun c9 => (mc_WP.run (mc_adjs _) 3 (And.intro rfl (And.intro (fun c10 => (((((h.2 c6).2 c7).2 c8).2 c9).1 c10)) (fun c10 => (((((h.2 c6).2 c7).2 c8).2 c9).2 c10))))))))))))))))))))
set_option maxRecDepth 20000 in
theorem bk_100_188 {x1 : Int32} {x2 : Int32} {x3 : Int32} {x4 : Int32} {x5 : Int32} {x6 : Int32} {x7 : Int32} {x8 : Int32}
    (h : (x8 = 0 →
        (mc_WP (100, 197, [.ref 84, .int x1, .int x2, .int x3, .int x4, .int x5, .int x6, .int x7, .int x8], [.ref 84], (I, J, rf_w r, sh_w N, n), (0, 0)) Q)) ∧
        (¬ (x8 = 0) →
        (mc_WP (100, 193, [.ref 84, .int x1, .int x2, .int x3, .int x4, .int x5, .int x6, .int x7, .int x8], [.ref 84], (I, J, rf_w r, sh_w N, n), (0, 0)) Q))) :
    mc_WP (100, 188, [.ref 84, .int x1, .int x2, .int x3, .int x4, .int x5, .int x6, .int x7, .int x8], [.ref 84], (I, J, rf_w r, sh_w N, n), (0, 0)) Q := by
  exact (mc_WP.run (mc_adjs _) 2 (And.intro (fun c2 => (h.1 c2)) (fun c2 => (h.2 c2))))
set_option maxRecDepth 20000 in
theorem bk_100_193 {x1 : Int32} {x2 : Int32} {x3 : Int32} {x4 : Int32} {x5 : Int32} {x6 : Int32} {x7 : Int32} {x8 : Int32}
    (h : mc_WP (100, 198, [.ref 84, .int x1, .int x2, .int x3, .int x4, .int x5, .int x6, .int x7, .int x8], [.int (1 : Int32), .ref 84], (I, J, rf_w r, sh_w N, n), (0, 0)) Q) :
    mc_WP (100, 193, [.ref 84, .int x1, .int x2, .int x3, .int x4, .int x5, .int x6, .int x7, .int x8], [.ref 84], (I, J, rf_w r, sh_w N, n), (0, 0)) Q := by
  exact (mc_WP.run (mc_adjs _) 2 h)
set_option maxRecDepth 20000 in
theorem bk_100_197 {x1 : Int32} {x2 : Int32} {x3 : Int32} {x4 : Int32} {x5 : Int32} {x6 : Int32} {x7 : Int32} {x8 : Int32}
    (h : mc_WP (100, 198, [.ref 84, .int x1, .int x2, .int x3, .int x4, .int x5, .int x6, .int x7, .int x8], [.int (0 : Int32), .ref 84], (I, J, rf_w r, sh_w N, n), (0, 0)) Q) :
    mc_WP (100, 197, [.ref 84, .int x1, .int x2, .int x3, .int x4, .int x5, .int x6, .int x7, .int x8], [.ref 84], (I, J, rf_w r, sh_w N, n), (0, 0)) Q := by
  exact (mc_WP.run (mc_adjs _) 1 h)
set_option maxRecDepth 20000 in
theorem bk_100_198 {x1 : Int32} {x2 : Int32} {x3 : Int32} {x4 : Int32} {x5 : Int32} {x6 : Int32} {x7 : Int32} {x8 : Int32} {y1 : Int32}
    (h : (y1 = 0 ∨ y1 = 1) ∧ (y1 = 0 →
        (mc_WP (100, 227, [.ref 84, .int x1, .int x2, .int x3, .int x4, .int x5, .int x6, .int x7, .int x8], [], ((mc_up I 84 22 y1), J, rf_w r, sh_w N, n), (0, 0)) Q)) ∧
        (¬ (y1 = 0) →
        ((¬ x6 = (I 84 19) →
          (mc_WP (100, 227, [.ref 84, .int x1, .int x2, .int x3, .int x4, .int x5, .int x6, .int x7, .int x8], [], ((mc_up I 84 22 y1), J, rf_w r, sh_w N, n), (0, 0)) Q)) ∧
          (¬ (¬ x6 = (I 84 19)) →
          (mc_WP (100, 252, [.ref 84, .int x1, .int x2, .int x3, .int (1 : Int32), .int x5, .int x6, .int x7, .int x8], [], ((mc_up (mc_up (mc_up I 84 22 y1) 84 18 ((I 84 19) + (2 : Int32))) 84 20 (-1 : Int32)), J, rf_w r, sh_w N, n), (0, 0)) Q))))) :
    mc_WP (100, 198, [.ref 84, .int x1, .int x2, .int x3, .int x4, .int x5, .int x6, .int x7, .int x8], [.int y1, .ref 84], (I, J, rf_w r, sh_w N, n), (0, 0)) Q := by
  exact (mc_WP.run (mc_adjs _) 4 (And.intro ⟨rfl, h.1⟩ (And.intro rfl (And.intro (fun c6 => (h.2.1 c6)) (fun c6 => (mc_WP.run (mc_adjs _) 4 (And.intro rfl (And.intro (fun c7 => ((h.2.2 c6).1 c7)) (fun c7 => (mc_WP.run (mc_adjs _) 4 (And.intro rfl (And.intro (by decide) (And.intro (by decide) (mc_inl (mc_WP.run (mc_adjs _) 10 (And.intro rfl (And.intro rfl (And.intro rfl (mc_WP.run (mc_adjs _) 1 ((h.2.2 c6).2 c7))))))))))))))))))))
set_option maxRecDepth 20000 in
theorem bk_100_227 {x1 : Int32} {x2 : Int32} {x3 : Int32} {x4 : Int32} {x5 : Int32} {x6 : Int32} {x7 : Int32} {x8 : Int32}
    (h : ((I 84 22) = 0 →
        (mc_WP (100, 252, [.ref 84, .int x1, .int x2, .int x3, .int x4, .int x5, .int x6, .int x7, .int x8], [], (I, J, rf_w r, sh_w N, n), (0, 0)) Q)) ∧
        (¬ ((I 84 22) = 0) →
        ((x7 = 0 →
          (mc_WP (100, 252, [.ref 84, .int x1, .int x2, .int x3, .int x4, .int x5, .int x6, .int x7, .int x8], [], (I, J, rf_w r, sh_w N, n), (0, 0)) Q)) ∧
          (¬ (x7 = 0) →
          (∃ R : mc_Q, mc_WP (mc_en 80 [.ref 84, .int x6] (I, J, rf_w r, sh_w N, n)) R ∧ (∀ v t, R (.inl v) t → mc_WP (100, 245, [.ref 84, .int x1, .int x2, .int x3, .int x4, .int x5, .int x6, .int x7, .int x8], v.toList ++ [], t, (0, 0)) Q) ∧ (∀ k t, R (.inr k) t → Q (.inr k) t)))))) :
    mc_WP (100, 227, [.ref 84, .int x1, .int x2, .int x3, .int x4, .int x5, .int x6, .int x7, .int x8], [], (I, J, rf_w r, sh_w N, n), (0, 0)) Q := by
  exact (mc_WP.run (mc_adjs _) 3 (And.intro rfl (And.intro (fun c4 => (h.1 c4)) (fun c4 => (mc_WP.run (mc_adjs _) 2 (And.intro (fun c5 => ((h.2 c4).1 c5)) (fun c5 => (mc_WP.run (mc_adjs _) 3 (And.intro rfl (And.intro (by decide) (And.intro (by decide) ((h.2 c4).2 c5))))))))))))
set_option maxRecDepth 20000 in
theorem bk_100_245 {x1 : Int32} {x2 : Int32} {x3 : Int32} {x4 : Int32} {x5 : Int32} {x6 : Int32} {x7 : Int32} {x8 : Int32}
    (h : ∃ R : mc_Q, mc_WP (mc_en 99 [.ref 84, .int x6, .int x2] (I, J, rf_w r, sh_w N, n)) R ∧ (∀ v t, R (.inl v) t → mc_WP (100, 252, [.ref 84, .int x1, .int x2, .int x3, .int x4, .int x5, .int x6, .int x7, .int x8], v.toList ++ [], t, (0, 0)) Q) ∧ (∀ k t, R (.inr k) t → Q (.inr k) t)) :
    mc_WP (100, 245, [.ref 84, .int x1, .int x2, .int x3, .int x4, .int x5, .int x6, .int x7, .int x8], [], (I, J, rf_w r, sh_w N, n), (0, 0)) Q := by
  exact (mc_WP.run (mc_adjs _) 4 (And.intro rfl (And.intro (by decide) (And.intro (by decide) h))))
set_option maxRecDepth 20000 in
theorem bk_100_252 {x1 : Int32} {x2 : Int32} {x3 : Int32} {x4 : Int32} {x5 : Int32} {x6 : Int32} {x7 : Int32} {x8 : Int32}
    (h : ((I 84 22) = 0 →
        (mc_WP (100, 274, [.ref 84, .int x1, .int x2, .int x3, .int x4, .int x5, .int x6, .int x7, .int x8], [], (I, J, rf_w r, sh_w N, n), (0, 0)) Q)) ∧
        (¬ ((I 84 22) = 0) →
        ((¬ x6 = ((I 84 19) + (1 : Int32)) →
          (mc_WP (100, 274, [.ref 84, .int x1, .int x2, .int x3, .int x4, .int x5, .int x6, .int x7, .int x8], [], (I, J, rf_w r, sh_w N, n), (0, 0)) Q)) ∧
          (¬ (¬ x6 = ((I 84 19) + (1 : Int32))) →
          (mc_WP (100, 275, [.ref 84, .int x1, .int x2, .int x3, .int x4, .int x5, .int x6, .int x7, .int x8], [.int (1 : Int32)], (I, J, rf_w r, sh_w N, n), (0, 0)) Q))))) :
    mc_WP (100, 252, [.ref 84, .int x1, .int x2, .int x3, .int x4, .int x5, .int x6, .int x7, .int x8], [], (I, J, rf_w r, sh_w N, n), (0, 0)) Q := by
  exact (mc_WP.run (mc_adjs _) 3 (And.intro rfl (And.intro (fun c4 => (h.1 c4)) (fun c4 => (mc_WP.run (mc_adjs _) 6 (And.intro rfl (And.intro (fun c5 => ((h.2 c4).1 c5)) (fun c5 => (mc_WP.run (mc_adjs _) 2 ((h.2 c4).2 c5))))))))))
set_option maxRecDepth 20000 in
theorem bk_100_274 {x1 : Int32} {x2 : Int32} {x3 : Int32} {x4 : Int32} {x5 : Int32} {x6 : Int32} {x7 : Int32} {x8 : Int32}
    (h : mc_WP (100, 275, [.ref 84, .int x1, .int x2, .int x3, .int x4, .int x5, .int x6, .int x7, .int x8], [.int (0 : Int32)], (I, J, rf_w r, sh_w N, n), (0, 0)) Q) :
    mc_WP (100, 274, [.ref 84, .int x1, .int x2, .int x3, .int x4, .int x5, .int x6, .int x7, .int x8], [], (I, J, rf_w r, sh_w N, n), (0, 0)) Q := by
  exact (mc_WP.run (mc_adjs _) 1 h)
set_option maxRecDepth 20000 in
theorem bk_100_275 {x1 : Int32} {x2 : Int32} {x3 : Int32} {x4 : Int32} {x5 : Int32} {x6 : Int32} {x7 : Int32} {x8 : Int32} {y0 : Int32}
    (h : mc_WP (100, 31, [.ref 84, .int x1, .int x2, .int x3, .int x4, .int y0, .int x6, .int x7, .int x8], [], (I, J, rf_w r, sh_w N, n), (0, 0)) Q) :
    mc_WP (100, 275, [.ref 84, .int x1, .int x2, .int x3, .int x4, .int x5, .int x6, .int x7, .int x8], [.int y0], (I, J, rf_w r, sh_w N, n), (0, 0)) Q := by
  exact (mc_WP.run (mc_adjs _) 2 h)
set_option maxRecDepth 20000 in
theorem bk_100_280 {x1 : Int32} {x2 : Int32} {x3 : Int32} {x4 : Int32} {x5 : Int32} {x6 : Value} {x7 : Value} {x8 : Value}
    (h : ((I 84 22) = 0 →
        (mc_WP (100, 304, [.ref 84, .int x1, .int x2, .int x3, .int x4, .int x5, x6, x7, x8], [.int (I 84 21), .ref 84], (I, J, rf_w r, sh_w N, n), (0, 0)) Q)) ∧
        (¬ ((I 84 22) = 0) →
        (mc_WP (100, 304, [.ref 84, .int x1, .int x2, .int x3, .int x4, .int x5, x6, x7, x8], [.int ((I 84 21) + (I 84 23)), .ref 84], (I, J, rf_w r, sh_w N, n), (0, 0)) Q))) :
    mc_WP (100, 280, [.ref 84, .int x1, .int x2, .int x3, .int x4, .int x5, x6, x7, x8], [], (I, J, rf_w r, sh_w N, n), (0, 0)) Q := by
  exact (mc_WP.run (mc_adjs _) 4 (And.intro rfl (And.intro (fun c4 => (mc_WP.run (mc_adjs _) 2 (And.intro rfl (h.1 c4)))) (fun c4 => (mc_WP.run (mc_adjs _) 6 (And.intro rfl (And.intro rfl (h.2 c4))))))))
set_option maxRecDepth 20000 in
theorem bk_100_304 {x1 : Int32} {x2 : Int32} {x3 : Int32} {x4 : Int32} {x5 : Int32} {x6 : Value} {x7 : Value} {x8 : Value} {y1 : Int32}
    (h : ((I 84 22) = 0 →
        (mc_WP (100, 327, [.ref 84, .int x1, .int x2, .int x3, .int x4, .int x5, x6, x7, x8], [.ref 84], ((mc_up I 84 21 y1), J, rf_w r, sh_w N, n), (0, 0)) Q)) ∧
        (¬ ((I 84 22) = 0) →
        ((¬ (I 84 26) = x2 →
          (mc_WP (100, 327, [.ref 84, .int x1, .int x2, .int x3, .int x4, .int x5, x6, x7, x8], [.ref 84], ((mc_up I 84 21 y1), J, rf_w r, sh_w N, n), (0, 0)) Q)) ∧
          (¬ (¬ (I 84 26) = x2) →
          (mc_WP (100, 328, [.ref 84, .int x1, .int x2, .int x3, .int x4, .int x5, x6, x7, x8], [.int (1 : Int32), .ref 84], ((mc_up I 84 21 y1), J, rf_w r, sh_w N, n), (0, 0)) Q))))) :
    mc_WP (100, 304, [.ref 84, .int x1, .int x2, .int x3, .int x4, .int x5, x6, x7, x8], [.int y1, .ref 84], (I, J, rf_w r, sh_w N, n), (0, 0)) Q := by
  exact (mc_WP.run (mc_adjs _) 5 (And.intro rfl (And.intro rfl (And.intro (fun c4 => (h.1 c4)) (fun c4 => (mc_WP.run (mc_adjs _) 4 (And.intro rfl (And.intro (fun c5 => ((h.2 c4).1 c5)) (fun c5 => (mc_WP.run (mc_adjs _) 2 ((h.2 c4).2 c5)))))))))))
set_option maxRecDepth 20000 in
theorem bk_100_327 {x1 : Int32} {x2 : Int32} {x3 : Int32} {x4 : Int32} {x5 : Int32} {x6 : Value} {x7 : Value} {x8 : Value}
    (h : mc_WP (100, 328, [.ref 84, .int x1, .int x2, .int x3, .int x4, .int x5, x6, x7, x8], [.int (0 : Int32), .ref 84], (I, J, rf_w r, sh_w N, n), (0, 0)) Q) :
    mc_WP (100, 327, [.ref 84, .int x1, .int x2, .int x3, .int x4, .int x5, x6, x7, x8], [.ref 84], (I, J, rf_w r, sh_w N, n), (0, 0)) Q := by
  exact (mc_WP.run (mc_adjs _) 1 h)
set_option maxRecDepth 20000 in
theorem bk_100_328 {x1 : Int32} {x2 : Int32} {x3 : Int32} {x4 : Int32} {x5 : Int32} {x6 : Value} {x7 : Value} {x8 : Value} {y1 : Int32}
    (h : (y1 = 0 ∨ y1 = 1) ∧ ∃ R : mc_Q, mc_WP (mc_en 95 [.ref 84, .int (0 : Int32), .int (0 : Int32)] ((mc_up I 84 22 y1), J, rf_w r, sh_w N, n)) R ∧ (∀ v t, R (.inl v) t → mc_WP (100, 337, [.ref 84, .int x1, .int x2, .int x3, .int x4, .int x5, x6, x7, x8], v.toList ++ [], t, (0, 0)) Q) ∧ (∀ k t, R (.inr k) t → Q (.inr k) t)) :
    mc_WP (100, 328, [.ref 84, .int x1, .int x2, .int x3, .int x4, .int x5, x6, x7, x8], [.int y1, .ref 84], (I, J, rf_w r, sh_w N, n), (0, 0)) Q := by
  exact (mc_WP.run (mc_adjs _) 5 (And.intro ⟨rfl, h.1⟩ (And.intro rfl (And.intro (by decide) (And.intro (by decide) h.2)))))
set_option maxRecDepth 20000 in
theorem bk_100_337 {x1 : Int32} {x2 : Int32} {x3 : Int32} {x4 : Int32} {x5 : Int32} {x6 : Value} {x7 : Value} {x8 : Value} {y0 : Int32}
    (h : mc_WP (100, 341, [.ref 84, .int x1, .int x2, .int x3, .int x4, .int x5, .int (0 : Int32), x7, x8], [], (I, J, rf_w r, sh_w N, n), (0, 0)) Q) :
    mc_WP (100, 337, [.ref 84, .int x1, .int x2, .int x3, .int x4, .int x5, x6, x7, x8], [.int y0], (I, J, rf_w r, sh_w N, n), (0, 0)) Q := by
  exact (mc_WP.run (mc_adjs _) 3 h)
set_option maxRecDepth 20000 in
theorem bk_100_341 {x1 : Int32} {x2 : Int32} {x3 : Int32} {x4 : Int32} {x5 : Int32} {x6 : Int32} {x7 : Value} {x8 : Value}
    (h : (x2 ≤ x6 →
        (mc_WP (100, 380, [.ref 84, .int x1, .int x2, .int x3, .int x4, .int x5, .int x6, x7, x8], [], (I, J, rf_w r, sh_w N, n), (0, 0)) Q)) ∧
        (¬ (x2 ≤ x6) →
        (((I 84 22) = 0 →
          (mc_WP (100, 380, [.ref 84, .int x1, .int x2, .int x3, .int x4, .int x5, .int x6, x7, x8], [], (I, J, rf_w r, sh_w N, n), (0, 0)) Q)) ∧
          (¬ ((I 84 22) = 0) →
          (vp_in x6 64 ∧ (x3 ≤ (I 99 x6.toNatClampNeg) →
            (mc_WP (100, 371, [.ref 84, .int x1, .int x2, .int x3, .int x4, .int x5, .int x6, x7, x8], [.int (0 : Int32), .ref 84], (I, J, rf_w r, sh_w N, n), (0, 0)) Q)) ∧
            (¬ (x3 ≤ (I 99 x6.toNatClampNeg)) →
            (mc_WP (100, 371, [.ref 84, .int x1, .int x2, .int x3, .int x4, .int x5, .int x6, x7, x8], [.int (1 : Int32), .ref 84], (I, J, rf_w r, sh_w N, n), (0, 0)) Q))))))) :
    mc_WP (100, 341, [.ref 84, .int x1, .int x2, .int x3, .int x4, .int x5, .int x6, x7, x8], [], (I, J, rf_w r, sh_w N, n), (0, 0)) Q := by
  exact (mc_WP.run (mc_adjs _) 3 (And.intro (fun c6 => (h.1 c6)) (fun c6 => (mc_WP.run (mc_adjs _) 3 (And.intro rfl (And.intro (fun c7 => ((h.2 c6).1 c7)) (fun c7 => (mc_WP.run (mc_adjs _) 7 (And.intro ⟨rfl, (show ¬ (99 : Nat) = 0 by decide)⟩ (And.intro (wl_ld rfl ((h.2 c6).2 c7).1) (And.intro (fun c8 => (mc_WP.run (mc_adjs _) 1 (((h.2 c6).2 c7).2.1 c8))) (fun c8 => (mc_WP.run (mc_adjs _) 2 (((h.2 c6).2 c7).2.2 c8))))))))))))))
set_option maxRecDepth 20000 in
theorem bk_100_371 {x1 : Int32} {x2 : Int32} {x3 : Int32} {x4 : Int32} {x5 : Int32} {x6 : Int32} {x7 : Value} {x8 : Value} {y1 : Int32}
    (h : (y1 = 0 ∨ y1 = 1) ∧ mc_WP (100, 341, [.ref 84, .int x1, .int x2, .int x3, .int x4, .int x5, .int (x6 + (1 : Int32)), x7, x8], [], ((mc_up I 84 22 y1), J, rf_w r, sh_w N, n), (0, 0)) Q) :
    mc_WP (100, 371, [.ref 84, .int x1, .int x2, .int x3, .int x4, .int x5, .int x6, x7, x8], [.int y1, .ref 84], (I, J, rf_w r, sh_w N, n), (0, 0)) Q := by
  exact (mc_WP.run (mc_adjs _) 3 (And.intro ⟨rfl, h.1⟩ h.2))
set_option maxRecDepth 20000 in
theorem bk_100_380 {x1 : Int32} {x2 : Int32} {x3 : Int32} {x4 : Int32} {x5 : Int32} {x6 : Int32} {x7 : Value} {x8 : Value}
    (h : Q (.inl none) (I, J, rf_w r, sh_w N, n)) :
    mc_WP (100, 380, [.ref 84, .int x1, .int x2, .int x3, .int x4, .int x5, .int x6, x7, x8], [], (I, J, rf_w r, sh_w N, n), (0, 0)) Q := by
  exact (mc_WP.run (mc_adjs _) 1 h)
-- 101 takeFrame(III)V joins inl<=6
set_option maxRecDepth 20000 in
theorem bk_101_0 {x1 : Int32} {x2 : Int32} {x3 : Int32}
    (h : ∃ R : mc_Q, mc_WP (mc_en 95 [.ref 84, .int (0 : Int32), .int (7 : Int32)] (I, J, rf_w r, sh_w N, n)) R ∧ (∀ v t, R (.inl v) t → mc_WP (101, 26, [.ref 84, .int x1, .int x2, .int x3, .int ((9 : Int32) * ((I 84 5) + (1 : Int32))), .null, .null, .null, .null, .null, .null, .null], v.toList ++ [.int (((9 : Int32) * ((I 84 5) + (1 : Int32))) + (0 : Int32)), .ref 88], t, (0, 0)) Q) ∧ (∀ k t, R (.inr k) t → Q (.inr k) t)) :
    mc_WP (mc_en 101 [.ref 84, .int x1, .int x2, .int x3] (I, J, rf_w r, sh_w N, n)) Q := by
  exact (mc_WP.run (mc_adjs _) 16 (And.intro rfl (And.intro ⟨rfl, (show ¬ (88 : Nat) = 0 by decide)⟩ (And.intro rfl (And.intro (by decide) (And.intro (by decide) h))))))
set_option maxRecDepth 20000 in
theorem bk_101_26 {x1 : Int32} {x2 : Int32} {x3 : Int32} {x4 : Int32} {b0 : Nat} {b0z : Nat} {y1 : Int32} {y2 : Int32} (hb0 : sh_w N b0 = (2, b0z)) (gb0 : 10 ≤ b0)
    (h : vp_in y1 b0z ∧ ∃ R : mc_Q, mc_WP (mc_en 95 [.ref 84, .int (0 : Int32), .int (7 : Int32)] ((mc_up I b0 y1.toNatClampNeg y2), J, rf_w r, sh_w N, n)) R ∧ (∀ v t, R (.inl v) t → mc_WP (101, 42, [.ref 84, .int x1, .int x2, .int x3, .int x4, .null, .null, .null, .null, .null, .null, .null], v.toList ++ [.int (x4 + (1 : Int32)), .ref 88], t, (0, 0)) Q) ∧ (∀ k t, R (.inr k) t → Q (.inr k) t)) :
    mc_WP (101, 26, [.ref 84, .int x1, .int x2, .int x3, .int x4, .null, .null, .null, .null, .null, .null, .null], [.int y2, .int y1, .ref b0], (I, J, rf_w r, sh_w N, n), (0, 0)) Q := by
  exact (mc_WP.run (mc_adjs _) 10 (And.intro (wl_st hb0 h.1 gb0) (And.intro ⟨rfl, (show ¬ (88 : Nat) = 0 by decide)⟩ (And.intro rfl (And.intro (by decide) (And.intro (by decide) h.2))))))
set_option maxRecDepth 20000 in
theorem bk_101_42 {x1 : Int32} {x2 : Int32} {x3 : Int32} {x4 : Int32} {b0 : Nat} {b0z : Nat} {y1 : Int32} {y2 : Int32} (hb0 : sh_w N b0 = (2, b0z)) (gb0 : 10 ≤ b0)
    (h : vp_in y1 b0z ∧ ∃ R : mc_Q, mc_WP (mc_en 95 [.ref 84, .int (1 : Int32), .int (8 : Int32)] ((mc_up I b0 y1.toNatClampNeg y2), J, rf_w r, sh_w N, n)) R ∧ (∀ v t, R (.inl v) t → mc_WP (101, 58, [.ref 84, .int x1, .int x2, .int x3, .int x4, .null, .null, .null, .null, .null, .null, .null], v.toList ++ [.int (x4 + (2 : Int32)), .ref 88], t, (0, 0)) Q) ∧ (∀ k t, R (.inr k) t → Q (.inr k) t)) :
    mc_WP (101, 42, [.ref 84, .int x1, .int x2, .int x3, .int x4, .null, .null, .null, .null, .null, .null, .null], [.int y2, .int y1, .ref b0], (I, J, rf_w r, sh_w N, n), (0, 0)) Q := by
  exact (mc_WP.run (mc_adjs _) 10 (And.intro (wl_st hb0 h.1 gb0) (And.intro ⟨rfl, (show ¬ (88 : Nat) = 0 by decide)⟩ (And.intro rfl (And.intro (by decide) (And.intro (by decide) h.2))))))
set_option maxRecDepth 20000 in
theorem bk_101_58 {x1 : Int32} {x2 : Int32} {x3 : Int32} {x4 : Int32} {b0 : Nat} {b0z : Nat} {y1 : Int32} {y2 : Int32} (hb0 : sh_w N b0 = (2, b0z)) (gb0 : 10 ≤ b0)
    (h : vp_in y1 b0z ∧ ∃ R : mc_Q, mc_WP (mc_en 95 [.ref 84, .int (1 : Int32), .int (8 : Int32)] ((mc_up I b0 y1.toNatClampNeg y2), J, rf_w r, sh_w N, n)) R ∧ (∀ v t, R (.inl v) t → mc_WP (101, 74, [.ref 84, .int x1, .int x2, .int x3, .int x4, .null, .null, .null, .null, .null, .null, .null], v.toList ++ [.int (x4 + (3 : Int32)), .ref 88], t, (0, 0)) Q) ∧ (∀ k t, R (.inr k) t → Q (.inr k) t)) :
    mc_WP (101, 58, [.ref 84, .int x1, .int x2, .int x3, .int x4, .null, .null, .null, .null, .null, .null, .null], [.int y2, .int y1, .ref b0], (I, J, rf_w r, sh_w N, n), (0, 0)) Q := by
  exact (mc_WP.run (mc_adjs _) 10 (And.intro (wl_st hb0 h.1 gb0) (And.intro ⟨rfl, (show ¬ (88 : Nat) = 0 by decide)⟩ (And.intro rfl (And.intro (by decide) (And.intro (by decide) h.2))))))
set_option maxRecDepth 20000 in
theorem bk_101_74 {x1 : Int32} {x2 : Int32} {x3 : Int32} {x4 : Int32} {b0 : Nat} {b0z : Nat} {y1 : Int32} {y2 : Int32} (hb0 : sh_w N b0 = (2, b0z)) (gb0 : 10 ≤ b0)
    (h : vp_in y1 b0z ∧ ∃ R : mc_Q, mc_WP (mc_en 95 [.ref 84, .int (0 : Int32), .int (15 : Int32)] ((mc_up I b0 y1.toNatClampNeg y2), J, rf_w r, sh_w N, n)) R ∧ (∀ v t, R (.inl v) t → mc_WP (101, 82, [.ref 84, .int x1, .int x2, .int x3, .int x4, .null, .null, .null, .null, .null, .null, .null], v.toList ++ [], t, (0, 0)) Q) ∧ (∀ k t, R (.inr k) t → Q (.inr k) t)) :
    mc_WP (101, 74, [.ref 84, .int x1, .int x2, .int x3, .int x4, .null, .null, .null, .null, .null, .null, .null], [.int y2, .int y1, .ref b0], (I, J, rf_w r, sh_w N, n), (0, 0)) Q := by
  exact (mc_WP.run (mc_adjs _) 5 (And.intro (wl_st hb0 h.1 gb0) (And.intro rfl (And.intro (by decide) (And.intro (by decide) h.2)))))
set_option maxRecDepth 20000 in
theorem bk_101_82 {x1 : Int32} {x2 : Int32} {x3 : Int32} {x4 : Int32} {y0 : Int32}
    (h : ((I 84 22) = 0 →
        (mc_WP (101, 110, [.ref 84, .int x1, .int x2, .int x3, .int x4, .int y0, .null, .null, .null, .null, .null, .null], [.ref 84], (I, J, rf_w r, sh_w N, n), (0, 0)) Q)) ∧
        (¬ ((I 84 22) = 0) →
        ((y0 < (2 : Int32) →
          (mc_WP (101, 106, [.ref 84, .int x1, .int x2, .int x3, .int x4, .int y0, .null, .null, .null, .null, .null, .null], [.ref 84], (I, J, rf_w r, sh_w N, n), (0, 0)) Q)) ∧
          (¬ (y0 < (2 : Int32)) →
          ((¬ (y0 &&& (2 : Int32)) = (2 : Int32) →
            (mc_WP (101, 110, [.ref 84, .int x1, .int x2, .int x3, .int x4, .int y0, .null, .null, .null, .null, .null, .null], [.ref 84], (I, J, rf_w r, sh_w N, n), (0, 0)) Q)) ∧
            (¬ (¬ (y0 &&& (2 : Int32)) = (2 : Int32)) →
            (mc_WP (101, 106, [.ref 84, .int x1, .int x2, .int x3, .int x4, .int y0, .null, .null, .null, .null, .null, .null], [.ref 84], (I, J, rf_w r, sh_w N, n), (0, 0)) Q))))))) :
    mc_WP (101, 82, [.ref 84, .int x1, .int x2, .int x3, .int x4, .null, .null, .null, .null, .null, .null, .null], [.int y0], (I, J, rf_w r, sh_w N, n), (0, 0)) Q := by
  exact (mc_WP.run (mc_adjs _) 5 (And.intro rfl (And.intro (fun c4 => (h.1 c4)) (fun c4 => (mc_WP.run (mc_adjs _) 3 (And.intro (fun c5 => ((h.2 c4).1 c5)) (fun c5 => (mc_WP.run (mc_adjs _) 5 (And.intro (fun c6 => (((h.2 c4).2 c5).1 c6)) (fun c6 => (((h.2 c4).2 c5).2 c6)))))))))))
set_option maxRecDepth 20000 in
theorem bk_101_106 {x1 : Int32} {x2 : Int32} {x3 : Int32} {x4 : Int32} {x5 : Int32}
    (h : mc_WP (101, 111, [.ref 84, .int x1, .int x2, .int x3, .int x4, .int x5, .null, .null, .null, .null, .null, .null], [.int (1 : Int32), .ref 84], (I, J, rf_w r, sh_w N, n), (0, 0)) Q) :
    mc_WP (101, 106, [.ref 84, .int x1, .int x2, .int x3, .int x4, .int x5, .null, .null, .null, .null, .null, .null], [.ref 84], (I, J, rf_w r, sh_w N, n), (0, 0)) Q := by
  exact (mc_WP.run (mc_adjs _) 2 h)
set_option maxRecDepth 20000 in
theorem bk_101_110 {x1 : Int32} {x2 : Int32} {x3 : Int32} {x4 : Int32} {x5 : Int32}
    (h : mc_WP (101, 111, [.ref 84, .int x1, .int x2, .int x3, .int x4, .int x5, .null, .null, .null, .null, .null, .null], [.int (0 : Int32), .ref 84], (I, J, rf_w r, sh_w N, n), (0, 0)) Q) :
    mc_WP (101, 110, [.ref 84, .int x1, .int x2, .int x3, .int x4, .int x5, .null, .null, .null, .null, .null, .null], [.ref 84], (I, J, rf_w r, sh_w N, n), (0, 0)) Q := by
  exact (mc_WP.run (mc_adjs _) 1 h)
set_option maxRecDepth 20000 in
theorem bk_101_111 {x1 : Int32} {x2 : Int32} {x3 : Int32} {x4 : Int32} {x5 : Int32} {y1 : Int32}
    (h : (y1 = 0 ∨ y1 = 1) ∧ vp_in (x4 + (8 : Int32)) 45 ∧ ((2 : Int32) ≤ x5 →
        (mc_WP (101, 152, [.ref 84, .int x1, .int x2, .int x3, .int x4, .int x5, .null, .null, .null, .null, .null, .null], [.int ((1 : Int32) + (x5 >>> ((2 : Int32) &&& 31))), .int (x4 + (4 : Int32)), .ref 88], ((mc_up (mc_up I 84 22 y1) 88 (x4 + (8 : Int32)).toNatClampNeg (x5 &&& (1 : Int32))), J, rf_w r, sh_w N, n), (0, 0)) Q)) ∧
        (¬ ((2 : Int32) ≤ x5) →
        (mc_WP (101, 152, [.ref 84, .int x1, .int x2, .int x3, .int x4, .int x5, .null, .null, .null, .null, .null, .null], [.int (0 : Int32), .int (x4 + (4 : Int32)), .ref 88], ((mc_up (mc_up I 84 22 y1) 88 (x4 + (8 : Int32)).toNatClampNeg (x5 &&& (1 : Int32))), J, rf_w r, sh_w N, n), (0, 0)) Q))) :
    mc_WP (101, 111, [.ref 84, .int x1, .int x2, .int x3, .int x4, .int x5, .null, .null, .null, .null, .null, .null], [.int y1, .ref 84], (I, J, rf_w r, sh_w N, n), (0, 0)) Q := by
  exact (mc_WP.run (mc_adjs _) 18 (And.intro ⟨rfl, h.1⟩ (And.intro ⟨rfl, (show ¬ (88 : Nat) = 0 by decide)⟩ (And.intro (wl_st rfl h.2.1 (show 10 ≤ (88 : Nat) by decide)) (And.intro ⟨rfl, (show ¬ (88 : Nat) = 0 by decide)⟩ (And.intro (fun c4 => (mc_WP.run (mc_adjs _) 5 (h.2.2.1 c4))) (fun c4 => (mc_WP.run (mc_adjs _) 2 (h.2.2.2 c4)))))))))
set_option maxRecDepth 20000 in
theorem bk_101_152 {x1 : Int32} {x2 : Int32} {x3 : Int32} {x4 : Int32} {x5 : Int32} {b0 : Nat} {b0z : Nat} {y1 : Int32} {y2 : Int32} (hb0 : sh_w N b0 = (2, b0z)) (gb0 : 10 ≤ b0)
    (h : vp_in y1 b0z ∧ ∃ R : mc_Q, mc_WP (mc_en 102 [.ref 84, .int ((mc_up I b0 y1.toNatClampNeg y2) 84 5)] ((mc_up I b0 y1.toNatClampNeg y2), J, rf_w r, sh_w N, n)) R ∧ (∀ v t, R (.inl v) t → mc_WP (101, 161, [.ref 84, .int x1, .int x2, .int x3, .int x4, .int x5, .null, .null, .null, .null, .null, .null], v.toList ++ [], t, (0, 0)) Q) ∧ (∀ k t, R (.inr k) t → Q (.inr k) t)) :
    mc_WP (101, 152, [.ref 84, .int x1, .int x2, .int x3, .int x4, .int x5, .null, .null, .null, .null, .null, .null], [.int y2, .int y1, .ref b0], (I, J, rf_w r, sh_w N, n), (0, 0)) Q := by
  exact (mc_WP.run (mc_adjs _) 5 (And.intro (wl_st hb0 h.1 gb0) (And.intro rfl (And.intro rfl (And.intro (by decide) (And.intro (by decide) h.2))))))
set_option maxRecDepth 20000 in
theorem bk_101_161 {x1 : Int32} {x2 : Int32} {x3 : Int32} {x4 : Int32} {x5 : Int32}
    (h : vp_in (x4 + (4 : Int32)) 45 ∧ ((I 88 (x4 + (4 : Int32)).toNatClampNeg) ≤ 0 →
        (mc_WP (101, 191, [.ref 84, .int x1, .int x2, .int x3, .int x4, .int x5, .null, .null, .null, .null, .null, .null], [.int (I 88 4)], (I, J, rf_w r, sh_w N, n), (0, 0)) Q)) ∧
        (¬ ((I 88 (x4 + (4 : Int32)).toNatClampNeg) ≤ 0) →
        (vp_in (x4 + (4 : Int32)) 45 ∧ mc_WP (101, 191, [.ref 84, .int x1, .int x2, .int x3, .int x4, .int x5, .null, .null, .null, .null, .null, .null], [.int (I 88 (x4 + (4 : Int32)).toNatClampNeg)], (I, J, rf_w r, sh_w N, n), (0, 0)) Q))) :
    mc_WP (101, 161, [.ref 84, .int x1, .int x2, .int x3, .int x4, .int x5, .null, .null, .null, .null, .null, .null], [], (I, J, rf_w r, sh_w N, n), (0, 0)) Q := by
  exact (mc_WP.run (mc_adjs _) 7 (And.intro ⟨rfl, (show ¬ (88 : Nat) = 0 by decide)⟩ (And.intro (wl_ld rfl h.1) (And.intro (fun c4 => (mc_WP.run (mc_adjs _) 4 (And.intro ⟨rfl, (show ¬ (88 : Nat) = 0 by decide)⟩ (And.intro (wl_ld rfl (show vp_in (4 : Int32) 45 by unfold vp_in; decide)) (h.2.1 c4))))) (fun c4 => (mc_WP.run (mc_adjs _) 7 (And.intro ⟨rfl, (show ¬ (88 : Nat) = 0 by decide)⟩ (And.intro (wl_ld rfl (h.2.2 c4).1) (h.2.2 c4).2))))))))
set_option maxRecDepth 20000 in
theorem bk_101_191 {x1 : Int32} {x2 : Int32} {x3 : Int32} {x4 : Int32} {x5 : Int32} {y0 : Int32}
    (h : vp_in (x4 + (5 : Int32)) 45 ∧ vp_in (x4 + (6 : Int32)) 45 ∧ vp_in (x4 + (7 : Int32)) 45 ∧ ((I 84 22) = 0 →
        (mc_WP (101, 245, [.ref 84, .int x1, .int x2, .int x3, .int x4, .int x5, .int y0, .null, .null, .null, .null, .null], [.ref 84], ((mc_up (mc_up (mc_up I 88 (x4 + (5 : Int32)).toNatClampNeg x1) 88 (x4 + (6 : Int32)).toNatClampNeg x2) 88 (x4 + (7 : Int32)).toNatClampNeg x3), J, rf_w r, sh_w N, n), (0, 0)) Q)) ∧
        (¬ ((I 84 22) = 0) →
        ((((1 : Int32) <<< (y0 &&& 31)) ≤ x3 →
          (mc_WP (101, 245, [.ref 84, .int x1, .int x2, .int x3, .int x4, .int x5, .int y0, .null, .null, .null, .null, .null], [.ref 84], ((mc_up (mc_up (mc_up I 88 (x4 + (5 : Int32)).toNatClampNeg x1) 88 (x4 + (6 : Int32)).toNatClampNeg x2) 88 (x4 + (7 : Int32)).toNatClampNeg x3), J, rf_w r, sh_w N, n), (0, 0)) Q)) ∧
          (¬ (((1 : Int32) <<< (y0 &&& 31)) ≤ x3) →
          (mc_WP (101, 246, [.ref 84, .int x1, .int x2, .int x3, .int x4, .int x5, .int y0, .null, .null, .null, .null, .null], [.int (1 : Int32), .ref 84], ((mc_up (mc_up (mc_up I 88 (x4 + (5 : Int32)).toNatClampNeg x1) 88 (x4 + (6 : Int32)).toNatClampNeg x2) 88 (x4 + (7 : Int32)).toNatClampNeg x3), J, rf_w r, sh_w N, n), (0, 0)) Q))))) :
    mc_WP (101, 191, [.ref 84, .int x1, .int x2, .int x3, .int x4, .int x5, .null, .null, .null, .null, .null, .null], [.int y0], (I, J, rf_w r, sh_w N, n), (0, 0)) Q := by
  exact (mc_WP.run (mc_adjs _) 26 (And.intro ⟨rfl, (show ¬ (88 : Nat) = 0 by decide)⟩ (And.intro (wl_st rfl h.1 (show 10 ≤ (88 : Nat) by decide)) (And.intro ⟨rfl, (show ¬ (88 : Nat) = 0 by decide)⟩ (And.intro (wl_st rfl h.2.1 (show 10 ≤ (88 : Nat) by decide)) (And.intro ⟨rfl, (show ¬ (88 : Nat) = 0 by decide)⟩ (And.intro (wl_st rfl h.2.2.1 (show 10 ≤ (88 : Nat) by decide)) (And.intro rfl (And.intro (fun c4 => (h.2.2.2.1 c4)) (fun c4 => (mc_WP.run (mc_adjs _) 5 (And.intro (fun c5 => ((h.2.2.2.2 c4).1 c5)) (fun c5 => (mc_WP.run (mc_adjs _) 2 ((h.2.2.2.2 c4).2 c5)))))))))))))))
set_option maxRecDepth 20000 in
theorem bk_101_245 {x1 : Int32} {x2 : Int32} {x3 : Int32} {x4 : Int32} {x5 : Int32} {x6 : Int32}
    (h : mc_WP (101, 246, [.ref 84, .int x1, .int x2, .int x3, .int x4, .int x5, .int x6, .null, .null, .null, .null, .null], [.int (0 : Int32), .ref 84], (I, J, rf_w r, sh_w N, n), (0, 0)) Q) :
    mc_WP (101, 245, [.ref 84, .int x1, .int x2, .int x3, .int x4, .int x5, .int x6, .null, .null, .null, .null, .null], [.ref 84], (I, J, rf_w r, sh_w N, n), (0, 0)) Q := by
  exact (mc_WP.run (mc_adjs _) 1 h)
set_option maxRecDepth 20000 in
theorem bk_101_246 {x1 : Int32} {x2 : Int32} {x3 : Int32} {x4 : Int32} {x5 : Int32} {x6 : Int32} {y1 : Int32}
    (h : (y1 = 0 ∨ y1 = 1) ∧ ∃ R : mc_Q, mc_WP (mc_en 95 [.ref 84, .int (2 : Int32), .int (4 : Int32)] ((mc_up I 84 22 y1), J, rf_w r, sh_w N, n)) R ∧ (∀ v t, R (.inl v) t → mc_WP (101, 255, [.ref 84, .int x1, .int x2, .int x3, .int x4, .int x5, .int x6, .null, .null, .null, .null, .null], v.toList ++ [], t, (0, 0)) Q) ∧ (∀ k t, R (.inr k) t → Q (.inr k) t)) :
    mc_WP (101, 246, [.ref 84, .int x1, .int x2, .int x3, .int x4, .int x5, .int x6, .null, .null, .null, .null, .null], [.int y1, .ref 84], (I, J, rf_w r, sh_w N, n), (0, 0)) Q := by
  exact (mc_WP.run (mc_adjs _) 5 (And.intro ⟨rfl, h.1⟩ (And.intro rfl (And.intro (by decide) (And.intro (by decide) h.2)))))
set_option maxRecDepth 20000 in
theorem bk_101_255 {x1 : Int32} {x2 : Int32} {x3 : Int32} {x4 : Int32} {x5 : Int32} {x6 : Int32} {y0 : Int32}
    (h : vp_in (x4 + (2 : Int32)) 45 ∧ vp_in (x4 + (3 : Int32)) 45 ∧ ((I 84 22) = 0 →
        (mc_WP (101, 301, [.ref 84, .int x1, .int x2, .int x3, .int x4, .int x5, .int x6, .int y0, .int (I 88 (x4 + (2 : Int32)).toNatClampNeg), .int (I 88 (x4 + (3 : Int32)).toNatClampNeg), .null, .null], [], (I, J, rf_w r, sh_w N, n), (0, 0)) Q)) ∧
        (¬ ((I 84 22) = 0) →
        (∃ R : mc_Q, mc_WP (mc_en 100 [.ref 84, .int y0, .int ((I 88 (x4 + (2 : Int32)).toNatClampNeg) * (I 88 (x4 + (3 : Int32)).toNatClampNeg)), .int ((1 : Int32) <<< (x6 &&& 31))] (I, J, rf_w r, sh_w N, n)) R ∧ (∀ v t, R (.inl v) t → mc_WP (101, 301, [.ref 84, .int x1, .int x2, .int x3, .int x4, .int x5, .int x6, .int y0, .int (I 88 (x4 + (2 : Int32)).toNatClampNeg), .int (I 88 (x4 + (3 : Int32)).toNatClampNeg), .null, .null], v.toList ++ [], t, (0, 0)) Q) ∧ (∀ k t, R (.inr k) t → Q (.inr k) t)))) :
    mc_WP (101, 255, [.ref 84, .int x1, .int x2, .int x3, .int x4, .int x5, .int x6, .null, .null, .null, .null, .null], [.int y0], (I, J, rf_w r, sh_w N, n), (0, 0)) Q := by
  exact (mc_WP.run (mc_adjs _) 18 (And.intro ⟨rfl, (show ¬ (88 : Nat) = 0 by decide)⟩ (And.intro (wl_ld rfl h.1) (And.intro ⟨rfl, (show ¬ (88 : Nat) = 0 by decide)⟩ (And.intro (wl_ld rfl h.2.1) (And.intro rfl (And.intro (fun c3 => (h.2.2.1 c3)) (fun c3 => (mc_WP.run (mc_adjs _) 9 (And.intro rfl (And.intro (by decide) (And.intro (by decide) (h.2.2.2 c3)))))))))))))
set_option maxRecDepth 20000 in
theorem bk_101_301 {x1 : Int32} {x2 : Int32} {x3 : Int32} {x4 : Int32} {x5 : Int32} {x6 : Int32} {x7 : Int32} {x8 : Int32} {x9 : Int32}
    (h : mc_WP (101, 304, [.ref 84, .int x1, .int x2, .int x3, .int x4, .int x5, .int x6, .int x7, .int x8, .int x9, .int (0 : Int32), .null], [], (I, J, rf_w r, sh_w N, n), (0, 0)) Q) :
    mc_WP (101, 301, [.ref 84, .int x1, .int x2, .int x3, .int x4, .int x5, .int x6, .int x7, .int x8, .int x9, .null, .null], [], (I, J, rf_w r, sh_w N, n), (0, 0)) Q := by
  exact (mc_WP.run (mc_adjs _) 2 h)
set_option maxRecDepth 20000 in
theorem bk_101_304 {x1 : Int32} {x2 : Int32} {x3 : Int32} {x4 : Int32} {x5 : Int32} {x6 : Int32} {x7 : Int32} {x8 : Int32} {x9 : Int32} {x10 : Int32} {x11 : Value}
    (h : ((x8 * x9) ≤ x10 →
        (mc_WP (101, 389, [.ref 84, .int x1, .int x2, .int x3, .int x4, .int x5, .int x6, .int x7, .int x8, .int x9, .int x10, x11], [], (I, J, rf_w r, sh_w N, n), (0, 0)) Q)) ∧
        (¬ ((x8 * x9) ≤ x10) →
        (((I 84 22) = 0 →
          (mc_WP (101, 389, [.ref 84, .int x1, .int x2, .int x3, .int x4, .int x5, .int x6, .int x7, .int x8, .int x9, .int x10, x11], [], (I, J, rf_w r, sh_w N, n), (0, 0)) Q)) ∧
          (¬ ((I 84 22) = 0) →
          (¬ x8 = 0 ∧ vp_in (x4 + (8 : Int32)) 45 ∧ (¬ (I 88 (x4 + (8 : Int32)).toNatClampNeg) = (1 : Int32) →
            (mc_WP (101, 347, [.ref 84, .int x1, .int x2, .int x3, .int x4, .int x5, .int x6, .int x7, .int x8, .int x9, .int x10, x11], [.int (0 : Int32), .int x9, .int (x10 / x8)], (I, J, rf_w r, sh_w N, n), (0, 0)) Q)) ∧
            (¬ (¬ (I 88 (x4 + (8 : Int32)).toNatClampNeg) = (1 : Int32)) →
            (mc_WP (101, 347, [.ref 84, .int x1, .int x2, .int x3, .int x4, .int x5, .int x6, .int x7, .int x8, .int x9, .int x10, x11], [.int (1 : Int32), .int x9, .int (x10 / x8)], (I, J, rf_w r, sh_w N, n), (0, 0)) Q))))))) :
    mc_WP (101, 304, [.ref 84, .int x1, .int x2, .int x3, .int x4, .int x5, .int x6, .int x7, .int x8, .int x9, .int x10, x11], [], (I, J, rf_w r, sh_w N, n), (0, 0)) Q := by
  exact (mc_WP.run (mc_adjs _) 5 (And.intro (fun c6 => (h.1 c6)) (fun c6 => (mc_WP.run (mc_adjs _) 3 (And.intro rfl (And.intro (fun c7 => ((h.2 c6).1 c7)) (fun c7 => (mc_WP.run (mc_adjs _) 12 (And.intro ((h.2 c6).2 c7).1 (And.intro ⟨rfl, (show ¬ (88 : Nat) = 0 by decide)⟩ (And.intro (wl_ld rfl ((h.2 c6).2 c7).2.1) (And.intro (fun c8 => (mc_WP.run (mc_adjs _) 1 (((h.2 c6).2 c7).2.2.1 c8))) (fun c8 => (mc_WP.run (mc_adjs _) 2 (((h.2 c6).2 c7).2.2.2 c8)))))))))))))))
set_option maxRecDepth 20000 in
theorem bk_101_347 {x1 : Int32} {x2 : Int32} {x3 : Int32} {x4 : Int32} {x5 : Int32} {x6 : Int32} {x7 : Int32} {x8 : Int32} {x9 : Int32} {x10 : Int32} {x11 : Value} {y0 : Int32} {y1 : Int32} {y2 : Int32}
    (h : ∃ R : mc_Q, mc_WP (mc_en 76 [.int y0, .int y1, .int y2] (I, J, rf_w r, sh_w N, n)) R ∧ (∀ v t, R (.inl v) t → mc_WP (101, 350, [.ref 84, .int x1, .int x2, .int x3, .int x4, .int x5, .int x6, .int x7, .int x8, .int x9, .int x10, x11], v.toList ++ [], t, (0, 0)) Q) ∧ (∀ k t, R (.inr k) t → Q (.inr k) t)) :
    mc_WP (101, 347, [.ref 84, .int x1, .int x2, .int x3, .int x4, .int x5, .int x6, .int x7, .int x8, .int x9, .int x10, x11], [.int y2, .int y1, .int y0], (I, J, rf_w r, sh_w N, n), (0, 0)) Q := by
  exact (mc_WP.run (mc_adjs _) 1 (And.intro (by decide) (And.intro (by decide) h)))
set_option maxRecDepth 20000 in
theorem bk_101_350 {x1 : Int32} {x2 : Int32} {x3 : Int32} {x4 : Int32} {x5 : Int32} {x6 : Int32} {x7 : Int32} {x8 : Int32} {x9 : Int32} {x10 : Int32} {x11 : Value} {y0 : Int32}
    (h : ¬ x8 = 0 ∧ vp_in x10 64 ∧ vp_in ((((64 : Int32) * (I 84 5)) + ((8 : Int32) * y0)) + (x10 - x10 / x8 * x8)) 256 ∧ mc_WP (101, 304, [.ref 84, .int x1, .int x2, .int x3, .int x4, .int x5, .int x6, .int x7, .int x8, .int x9, .int (x10 + (1 : Int32)), .int y0], [], ((mc_up I 90 ((((64 : Int32) * (I 84 5)) + ((8 : Int32) * y0)) + (x10 - x10 / x8 * x8)).toNatClampNeg (I 99 x10.toNatClampNeg)), J, rf_w r, sh_w N, n), (0, 0)) Q) :
    mc_WP (101, 350, [.ref 84, .int x1, .int x2, .int x3, .int x4, .int x5, .int x6, .int x7, .int x8, .int x9, .int x10, x11], [.int y0], (I, J, rf_w r, sh_w N, n), (0, 0)) Q := by
  exact (mc_WP.run (mc_adjs _) 22 (And.intro ⟨rfl, (show ¬ (90 : Nat) = 0 by decide)⟩ (And.intro rfl (And.intro h.1 (And.intro ⟨rfl, (show ¬ (99 : Nat) = 0 by decide)⟩ (And.intro (wl_ld rfl h.2.1) (And.intro (wl_st rfl h.2.2.1 (show 10 ≤ (90 : Nat) by decide)) h.2.2.2)))))))
set_option maxRecDepth 20000 in
theorem bk_101_389 {x1 : Int32} {x2 : Int32} {x3 : Int32} {x4 : Int32} {x5 : Int32} {x6 : Int32} {x7 : Int32} {x8 : Int32} {x9 : Int32} {x10 : Int32} {x11 : Value}
    (h : Q (.inl none) ((mc_up I 84 5 ((I 84 5) + (1 : Int32))), J, rf_w r, sh_w N, n)) :
    mc_WP (101, 389, [.ref 84, .int x1, .int x2, .int x3, .int x4, .int x5, .int x6, .int x7, .int x8, .int x9, .int x10, x11], [], (I, J, rf_w r, sh_w N, n), (0, 0)) Q := by
  exact (mc_WP.run (mc_adjs _) 7 (And.intro rfl (And.intro rfl h)))
-- 102 takeColoursOf(I)V inl<=6
set_option maxRecDepth 20000 in
theorem bk_102_0 {x1 : Int32}
    (h : vp_in (((9 : Int32) * (x1 + (1 : Int32))) + (4 : Int32)) 45 ∧ ((I 88 (((9 : Int32) * (x1 + (1 : Int32))) + (4 : Int32)).toNatClampNeg) ≤ 0 →
        (mc_WP (102, 26, [.ref 84, .int x1, .int (0 : Int32)], [], (I, J, rf_w r, sh_w N, n), (0, 0)) Q)) ∧
        (¬ ((I 88 (((9 : Int32) * (x1 + (1 : Int32))) + (4 : Int32)).toNatClampNeg) ≤ 0) →
        (∃ R : mc_Q, mc_WP (mc_en 96 [.ref 84, .int x1] (I, J, rf_w r, sh_w N, n)) R ∧ (∀ v t, R (.inl v) t → mc_WP (102, 21, [.ref 84, .int x1, .null], v.toList ++ [], t, (0, 0)) Q) ∧ (∀ k t, R (.inr k) t → Q (.inr k) t)))) :
    mc_WP (mc_en 102 [.ref 84, .int x1] (I, J, rf_w r, sh_w N, n)) Q := by
  exact (mc_WP.run (mc_adjs _) 11 (And.intro ⟨rfl, (show ¬ (88 : Nat) = 0 by decide)⟩ (And.intro (wl_ld rfl h.1) (And.intro (fun c4 => (mc_WP.run (mc_adjs _) 2 (h.2.1 c4))) (fun c4 => (mc_WP.run (mc_adjs _) 3 (And.intro rfl (And.intro (by decide) (And.intro (by decide) (h.2.2 c4))))))))))
set_option maxRecDepth 20000 in
theorem bk_102_21 {x1 : Int32}
    (h : Q (.inl none) (I, J, rf_w r, sh_w N, n)) :
    mc_WP (102, 21, [.ref 84, .int x1, .null], [], (I, J, rf_w r, sh_w N, n), (0, 0)) Q := by
  exact (mc_WP.run (mc_adjs _) 1 (mc_WP.run (mc_adjs _) 1 h))
set_option maxRecDepth 20000 in
theorem bk_102_26 {x1 : Int32} {x2 : Int32}
    (h : ((16 : Int32) ≤ x2 → (Q (.inl none) (I, J, rf_w r, sh_w N, n))) ∧
        (¬ ((16 : Int32) ≤ x2) →
        (vp_in (((16 : Int32) * (x1 + (1 : Int32))) + x2) 80 ∧ mc_WP (102, 26, [.ref 84, .int x1, .int (x2 + (1 : Int32))], [], ((mc_up I 89 (((16 : Int32) * (x1 + (1 : Int32))) + x2).toNatClampNeg (0 : Int32)), J, rf_w r, sh_w N, n), (0, 0)) Q))) :
    mc_WP (102, 26, [.ref 84, .int x1, .int x2], [], (I, J, rf_w r, sh_w N, n), (0, 0)) Q := by
  exact (mc_WP.run (mc_adjs _) 3 (And.intro (fun c4 => (mc_WP.run (mc_adjs _) 1 (h.1 c4))) (fun c4 => (mc_WP.run (mc_adjs _) 13 (And.intro ⟨rfl, (show ¬ (89 : Nat) = 0 by decide)⟩ (And.intro (wl_st rfl (h.2 c4).1 (show 10 ≤ (89 : Nat) by decide)) (h.2 c4).2))))))
-- 103 takeReel()V joins inl<=6
set_option maxRecDepth 20000 in
theorem bk_103_0
    (h : ∃ R : mc_Q, mc_WP (mc_en 95 [.ref 84, .int (80 : Int32), .int (80 : Int32)] ((mc_up (mc_up (mc_up I 84 21 (0 : Int32)) 84 22 (1 : Int32)) 84 5 (0 : Int32)), J, rf_w r, sh_w N, n)) R ∧ (∀ v t, R (.inl v) t → mc_WP (103, 23, [.ref 84, .null, .null, .null, .null, .null, .null, .null], v.toList ++ [], t, (0, 0)) Q) ∧ (∀ k t, R (.inr k) t → Q (.inr k) t)) :
    mc_WP (mc_en 103 [.ref 84] (I, J, rf_w r, sh_w N, n)) Q := by
  exact (mc_WP.run (mc_adjs _) 13 (And.intro rfl (And.intro ⟨rfl, (by decide)⟩ (And.intro rfl (And.intro rfl (And.intro (by decide) (And.intro (by decide) h)))))))
set_option maxRecDepth 20000 in
theorem bk_103_23 {y0 : Int32}
    (h : ∃ R : mc_Q, mc_WP (mc_en 95 [.ref 84, .int (49 : Int32), .int (49 : Int32)] (I, J, rf_w r, sh_w N, n)) R ∧ (∀ v t, R (.inl v) t → mc_WP (103, 32, [.ref 84, .null, .null, .null, .null, .null, .null, .null], v.toList ++ [], t, (0, 0)) Q) ∧ (∀ k t, R (.inr k) t → Q (.inr k) t)) :
    mc_WP (103, 23, [.ref 84, .null, .null, .null, .null, .null, .null, .null], [.int y0], (I, J, rf_w r, sh_w N, n), (0, 0)) Q := by
  exact (mc_WP.run (mc_adjs _) 5 (And.intro rfl (And.intro (by decide) (And.intro (by decide) h))))
set_option maxRecDepth 20000 in
theorem bk_103_32 {y0 : Int32}
    (h : ∃ R : mc_Q, mc_WP (mc_en 95 [.ref 84, .int (1 : Int32), .int (8 : Int32)] (I, J, rf_w r, sh_w N, n)) R ∧ (∀ v t, R (.inl v) t → mc_WP (103, 45, [.ref 84, .null, .null, .null, .null, .null, .null, .null], v.toList ++ [.int (2 : Int32), .ref 88], t, (0, 0)) Q) ∧ (∀ k t, R (.inr k) t → Q (.inr k) t)) :
    mc_WP (103, 32, [.ref 84, .null, .null, .null, .null, .null, .null, .null], [.int y0], (I, J, rf_w r, sh_w N, n), (0, 0)) Q := by
  exact (mc_WP.run (mc_adjs _) 8 (And.intro ⟨rfl, (show ¬ (88 : Nat) = 0 by decide)⟩ (And.intro rfl (And.intro (by decide) (And.intro (by decide) h)))))
set_option maxRecDepth 20000 in
theorem bk_103_45 {b0 : Nat} {b0z : Nat} {y1 : Int32} {y2 : Int32} (hb0 : sh_w N b0 = (2, b0z)) (gb0 : 10 ≤ b0)
    (h : vp_in y1 b0z ∧ ∃ R : mc_Q, mc_WP (mc_en 95 [.ref 84, .int (1 : Int32), .int (8 : Int32)] ((mc_up I b0 y1.toNatClampNeg y2), J, rf_w r, sh_w N, n)) R ∧ (∀ v t, R (.inl v) t → mc_WP (103, 58, [.ref 84, .null, .null, .null, .null, .null, .null, .null], v.toList ++ [.int (3 : Int32), .ref 88], t, (0, 0)) Q) ∧ (∀ k t, R (.inr k) t → Q (.inr k) t)) :
    mc_WP (103, 45, [.ref 84, .null, .null, .null, .null, .null, .null, .null], [.int y2, .int y1, .ref b0], (I, J, rf_w r, sh_w N, n), (0, 0)) Q := by
  exact (mc_WP.run (mc_adjs _) 8 (And.intro (wl_st hb0 h.1 gb0) (And.intro ⟨rfl, (show ¬ (88 : Nat) = 0 by decide)⟩ (And.intro rfl (And.intro (by decide) (And.intro (by decide) h.2))))))
set_option maxRecDepth 20000 in
theorem bk_103_58 {b0 : Nat} {b0z : Nat} {y1 : Int32} {y2 : Int32} (hb0 : sh_w N b0 = (2, b0z)) (gb0 : 10 ≤ b0)
    (h : vp_in y1 b0z ∧ ∃ R : mc_Q, mc_WP (mc_en 95 [.ref 84, .int (0 : Int32), .int (3 : Int32)] ((mc_up I b0 y1.toNatClampNeg y2), J, rf_w r, sh_w N, n)) R ∧ (∀ v t, R (.inl v) t → mc_WP (103, 71, [.ref 84, .null, .null, .null, .null, .null, .null, .null], v.toList ++ [.int (1 : Int32), .int (4 : Int32), .ref 88], t, (0, 0)) Q) ∧ (∀ k t, R (.inr k) t → Q (.inr k) t)) :
    mc_WP (103, 58, [.ref 84, .null, .null, .null, .null, .null, .null, .null], [.int y2, .int y1, .ref b0], (I, J, rf_w r, sh_w N, n), (0, 0)) Q := by
  exact (mc_WP.run (mc_adjs _) 9 (And.intro (wl_st hb0 h.1 gb0) (And.intro ⟨rfl, (show ¬ (88 : Nat) = 0 by decide)⟩ (And.intro rfl (And.intro (by decide) (And.intro (by decide) h.2))))))
set_option maxRecDepth 20000 in
theorem bk_103_71 {b0 : Nat} {b0z : Nat} {y1 : Int32} {y2 : Int32} {y3 : Int32} (hb0 : sh_w N b0 = (2, b0z)) (gb0 : 10 ≤ b0)
    (h : vp_in y1 b0z ∧ ∃ R : mc_Q, mc_WP (mc_en 96 [.ref 84, .int (-1 : Int32)] ((mc_up I b0 y1.toNatClampNeg (y2 + y3)), J, rf_w r, sh_w N, n)) R ∧ (∀ v t, R (.inl v) t → mc_WP (103, 78, [.ref 84, .null, .null, .null, .null, .null, .null, .null], v.toList ++ [], t, (0, 0)) Q) ∧ (∀ k t, R (.inr k) t → Q (.inr k) t)) :
    mc_WP (103, 71, [.ref 84, .null, .null, .null, .null, .null, .null, .null], [.int y3, .int y2, .int y1, .ref b0], (I, J, rf_w r, sh_w N, n), (0, 0)) Q := by
  exact (mc_WP.run (mc_adjs _) 5 (And.intro (wl_st hb0 h.1 gb0) (And.intro rfl (And.intro (by decide) (And.intro (by decide) h.2)))))
set_option maxRecDepth 20000 in
theorem bk_103_78
    (h : mc_WP (103, 87, [.ref 84, .int (0 : Int32), .int (0 : Int32), .int (-1 : Int32), .int (0 : Int32), .null, .null, .null], [], (I, J, rf_w r, sh_w N, n), (0, 0)) Q) :
    mc_WP (103, 78, [.ref 84, .null, .null, .null, .null, .null, .null, .null], [], (I, J, rf_w r, sh_w N, n), (0, 0)) Q := by
  exact (mc_WP.run (mc_adjs _) 8 h)
set_option maxRecDepth 20000 in
theorem bk_103_87 {x1 : Int32} {x2 : Int32} {x3 : Int32} {x4 : Int32} {x5 : Value} {x6 : Value} {x7 : Value}
    (h : ((I 84 22) = 0 →
        (mc_WP (103, 279, [.ref 84, .int x1, .int x2, .int x3, .int x4, x5, x6, x7], [], (I, J, rf_w r, sh_w N, n), (0, 0)) Q)) ∧
        (¬ ((I 84 22) = 0) →
        ((¬ x4 = 0 →
          (mc_WP (103, 279, [.ref 84, .int x1, .int x2, .int x3, .int x4, x5, x6, x7], [], (I, J, rf_w r, sh_w N, n), (0, 0)) Q)) ∧
          (¬ (¬ x4 = 0) →
          (∃ R : mc_Q, mc_WP (mc_en 95 [.ref 84, .int (0 : Int32), .int (255 : Int32)] (I, J, rf_w r, sh_w N, n)) R ∧ (∀ v t, R (.inl v) t → mc_WP (103, 107, [.ref 84, .int x1, .int x2, .int x3, .int x4, x5, x6, x7], v.toList ++ [], t, (0, 0)) Q) ∧ (∀ k t, R (.inr k) t → Q (.inr k) t)))))) :
    mc_WP (103, 87, [.ref 84, .int x1, .int x2, .int x3, .int x4, x5, x6, x7], [], (I, J, rf_w r, sh_w N, n), (0, 0)) Q := by
  exact (mc_WP.run (mc_adjs _) 3 (And.intro rfl (And.intro (fun c4 => (h.1 c4)) (fun c4 => (mc_WP.run (mc_adjs _) 2 (And.intro (fun c5 => ((h.2 c4).1 c5)) (fun c5 => (mc_WP.run (mc_adjs _) 4 (And.intro rfl (And.intro (by decide) (And.intro (by decide) ((h.2 c4).2 c5))))))))))))
set_option maxRecDepth 20000 in
theorem bk_103_107 {x1 : Int32} {x2 : Int32} {x3 : Int32} {x4 : Int32} {x5 : Value} {x6 : Value} {x7 : Value} {y0 : Int32}
    (h : (¬ y0 = (59 : Int32) →
        (mc_WP (103, 121, [.ref 84, .int x1, .int x2, .int x3, .int x4, .int y0, x6, x7], [.int (0 : Int32)], (I, J, rf_w r, sh_w N, n), (0, 0)) Q)) ∧
        (¬ (¬ y0 = (59 : Int32)) →
        (mc_WP (103, 121, [.ref 84, .int x1, .int x2, .int x3, .int x4, .int y0, x6, x7], [.int (1 : Int32)], (I, J, rf_w r, sh_w N, n), (0, 0)) Q))) :
    mc_WP (103, 107, [.ref 84, .int x1, .int x2, .int x3, .int x4, x5, x6, x7], [.int y0], (I, J, rf_w r, sh_w N, n), (0, 0)) Q := by
  exact (mc_WP.run (mc_adjs _) 4 (And.intro (fun c4 => (mc_WP.run (mc_adjs _) 1 (h.1 c4))) (fun c4 => (mc_WP.run (mc_adjs _) 2 (h.2 c4)))))
set_option maxRecDepth 20000 in
theorem bk_103_121 {x1 : Int32} {x2 : Int32} {x3 : Int32} {x4 : Int32} {x5 : Int32} {x6 : Value} {x7 : Value} {y0 : Int32}
    (h : (¬ x5 = (254 : Int32) →
        ((¬ x5 = (33 : Int32) →
          ((¬ x5 = (44 : Int32) →
            (mc_WP (103, 255, [.ref 84, .int x1, .int x2, .int x3, .int y0, .int x5, x6, x7], [], (I, J, rf_w r, sh_w N, n), (0, 0)) Q)) ∧
            (¬ (¬ x5 = (44 : Int32)) →
            (((4 : Int32) ≤ (I 84 5) →
              (mc_WP (103, 255, [.ref 84, .int x1, .int x2, .int x3, .int y0, .int x5, x6, x7], [], (I, J, rf_w r, sh_w N, n), (0, 0)) Q)) ∧
              (¬ ((4 : Int32) ≤ (I 84 5)) →
              (∃ R : mc_Q, mc_WP (mc_en 101 [.ref 84, .int x1, .int x2, .int x3] (I, J, rf_w r, sh_w N, n)) R ∧ (∀ v t, R (.inl v) t → mc_WP (103, 246, [.ref 84, .int x1, .int x2, .int x3, .int y0, .int x5, x6, x7], v.toList ++ [], t, (0, 0)) Q) ∧ (∀ k t, R (.inr k) t → Q (.inr k) t))))))) ∧
          (¬ (¬ x5 = (33 : Int32)) →
          (∃ R : mc_Q, mc_WP (mc_en 95 [.ref 84, .int (0 : Int32), .int (19 : Int32)] (I, J, rf_w r, sh_w N, n)) R ∧ (∀ v t, R (.inl v) t → mc_WP (103, 152, [.ref 84, .int x1, .int x2, .int x3, .int y0, .int x5, x6, x7], v.toList ++ [], t, (0, 0)) Q) ∧ (∀ k t, R (.inr k) t → Q (.inr k) t))))) ∧
        (¬ (¬ x5 = (254 : Int32)) →
        (∃ R : mc_Q, mc_WP (mc_en 97 [.ref 84] (I, J, rf_w r, sh_w N, n)) R ∧ (∀ v t, R (.inl v) t → mc_WP (103, 135, [.ref 84, .int x1, .int x2, .int x3, .int y0, .int x5, x6, x7], v.toList ++ [], t, (0, 0)) Q) ∧ (∀ k t, R (.inr k) t → Q (.inr k) t)))) :
    mc_WP (103, 121, [.ref 84, .int x1, .int x2, .int x3, .int x4, .int x5, x6, x7], [.int y0], (I, J, rf_w r, sh_w N, n), (0, 0)) Q := by
  exact (mc_WP.run (mc_adjs _) 4 (And.intro (fun c8 => (mc_WP.run (mc_adjs _) 3 (And.intro (fun c9 => (mc_WP.run (mc_adjs _) 3 (And.intro (fun c10 => (((h.1 c8).1 c9).1 c10)) (fun c10 => (mc_WP.run (mc_adjs _) 4 (And.intro rfl (And.intro (fun c11 => ((((h.1 c8).1 c9).2 c10).1 c11)) (fun c11 => (mc_WP.run (mc_adjs _) 5 (And.intro rfl (And.intro (by decide) (And.intro (by decide) ((((h.1 c8).1 c9).2 c10).2 c11))))))))))))) (fun c9 => (mc_WP.run (mc_adjs _) 4 (And.intro rfl (And.intro (by decide) (And.intro (by decide) ((h.1 c8).2 c9))))))))) (fun c8 => (mc_WP.run (mc_adjs _) 2 (And.intro rfl (And.intro (by decide) (And.intro (by decide) (h.2 c8))))))))
set_option maxRecDepth 20000 in
theorem bk_103_135 {x1 : Int32} {x2 : Int32} {x3 : Int32} {x4 : Int32} {x5 : Int32} {x6 : Value} {x7 : Value}
    (h : mc_WP (103, 276, [.ref 84, .int x1, .int x2, .int x3, .int x4, .int x5, x6, x7], [], (I, J, rf_w r, sh_w N, n), (0, 0)) Q) :
    mc_WP (103, 135, [.ref 84, .int x1, .int x2, .int x3, .int x4, .int x5, x6, x7], [], (I, J, rf_w r, sh_w N, n), (0, 0)) Q := by
  exact (mc_WP.run (mc_adjs _) 1 h)
set_option maxRecDepth 20000 in
theorem bk_103_152 {x1 : Int32} {x2 : Int32} {x3 : Int32} {x4 : Int32} {x5 : Int32} {x6 : Value} {x7 : Value} {y0 : Int32}
    (h : ((I 84 22) = 0 →
        (mc_WP (103, 179, [.ref 84, .int x1, .int x2, .int x3, .int x4, .int x5, .int y0, x7], [.ref 84], (I, J, rf_w r, sh_w N, n), (0, 0)) Q)) ∧
        (¬ ((I 84 22) = 0) →
        ((y0 < (4 : Int32) →
          (mc_WP (103, 175, [.ref 84, .int x1, .int x2, .int x3, .int x4, .int x5, .int y0, x7], [.ref 84], (I, J, rf_w r, sh_w N, n), (0, 0)) Q)) ∧
          (¬ (y0 < (4 : Int32)) →
          ((y0 ≤ (15 : Int32) →
            (mc_WP (103, 179, [.ref 84, .int x1, .int x2, .int x3, .int x4, .int x5, .int y0, x7], [.ref 84], (I, J, rf_w r, sh_w N, n), (0, 0)) Q)) ∧
            (¬ (y0 ≤ (15 : Int32)) →
            (mc_WP (103, 175, [.ref 84, .int x1, .int x2, .int x3, .int x4, .int x5, .int y0, x7], [.ref 84], (I, J, rf_w r, sh_w N, n), (0, 0)) Q))))))) :
    mc_WP (103, 152, [.ref 84, .int x1, .int x2, .int x3, .int x4, .int x5, x6, x7], [.int y0], (I, J, rf_w r, sh_w N, n), (0, 0)) Q := by
  exact (mc_WP.run (mc_adjs _) 5 (And.intro rfl (And.intro (fun c4 => (h.1 c4)) (fun c4 => (mc_WP.run (mc_adjs _) 3 (And.intro (fun c5 => ((h.2 c4).1 c5)) (fun c5 => (mc_WP.run (mc_adjs _) 3 (And.intro (fun c6 => (((h.2 c4).2 c5).1 c6)) (fun c6 => (((h.2 c4).2 c5).2 c6)))))))))))
set_option maxRecDepth 20000 in
theorem bk_103_175 {x1 : Int32} {x2 : Int32} {x3 : Int32} {x4 : Int32} {x5 : Int32} {x6 : Int32} {x7 : Value}
    (h : mc_WP (103, 180, [.ref 84, .int x1, .int x2, .int x3, .int x4, .int x5, .int x6, x7], [.int (1 : Int32), .ref 84], (I, J, rf_w r, sh_w N, n), (0, 0)) Q) :
    mc_WP (103, 175, [.ref 84, .int x1, .int x2, .int x3, .int x4, .int x5, .int x6, x7], [.ref 84], (I, J, rf_w r, sh_w N, n), (0, 0)) Q := by
  exact (mc_WP.run (mc_adjs _) 2 h)
set_option maxRecDepth 20000 in
theorem bk_103_179 {x1 : Int32} {x2 : Int32} {x3 : Int32} {x4 : Int32} {x5 : Int32} {x6 : Int32} {x7 : Value}
    (h : mc_WP (103, 180, [.ref 84, .int x1, .int x2, .int x3, .int x4, .int x5, .int x6, x7], [.int (0 : Int32), .ref 84], (I, J, rf_w r, sh_w N, n), (0, 0)) Q) :
    mc_WP (103, 179, [.ref 84, .int x1, .int x2, .int x3, .int x4, .int x5, .int x6, x7], [.ref 84], (I, J, rf_w r, sh_w N, n), (0, 0)) Q := by
  exact (mc_WP.run (mc_adjs _) 1 h)
set_option maxRecDepth 20000 in
theorem bk_103_180 {x1 : Int32} {x2 : Int32} {x3 : Int32} {x4 : Int32} {x5 : Int32} {x6 : Int32} {x7 : Value} {y1 : Int32}
    (h : (y1 = 0 ∨ y1 = 1) ∧ ∃ R : mc_Q, mc_WP (mc_en 95 [.ref 84, .int (0 : Int32), .int (255 : Int32)] ((mc_up I 84 22 y1), J, rf_w r, sh_w N, n)) R ∧ (∀ v t, R (.inl v) t → mc_WP (103, 196, [.ref 84, .int (x6 &&& (3 : Int32)), .int x2, .int x3, .int x4, .int x5, .int x6, x7], v.toList ++ [], t, (0, 0)) Q) ∧ (∀ k t, R (.inr k) t → Q (.inr k) t)) :
    mc_WP (103, 180, [.ref 84, .int x1, .int x2, .int x3, .int x4, .int x5, .int x6, x7], [.int y1, .ref 84], (I, J, rf_w r, sh_w N, n), (0, 0)) Q := by
  exact (mc_WP.run (mc_adjs _) 9 (And.intro ⟨rfl, h.1⟩ (And.intro rfl (And.intro (by decide) (And.intro (by decide) h.2)))))
set_option maxRecDepth 20000 in
theorem bk_103_196 {x1 : Int32} {x2 : Int32} {x3 : Int32} {x4 : Int32} {x5 : Int32} {x6 : Int32} {x7 : Value} {y0 : Int32}
    (h : ∃ R : mc_Q, mc_WP (mc_en 95 [.ref 84, .int (0 : Int32), .int (255 : Int32)] (I, J, rf_w r, sh_w N, n)) R ∧ (∀ v t, R (.inl v) t → mc_WP (103, 205, [.ref 84, .int x1, .int y0, .int x3, .int x4, .int x5, .int x6, x7], v.toList ++ [], t, (0, 0)) Q) ∧ (∀ k t, R (.inr k) t → Q (.inr k) t)) :
    mc_WP (103, 196, [.ref 84, .int x1, .int x2, .int x3, .int x4, .int x5, .int x6, x7], [.int y0], (I, J, rf_w r, sh_w N, n), (0, 0)) Q := by
  exact (mc_WP.run (mc_adjs _) 5 (And.intro rfl (And.intro (by decide) (And.intro (by decide) h))))
set_option maxRecDepth 20000 in
theorem bk_103_205 {x1 : Int32} {x2 : Int32} {x3 : Int32} {x4 : Int32} {x5 : Int32} {x6 : Int32} {x7 : Value} {y0 : Int32}
    (h : (x6 ≤ (15 : Int32) →
        (mc_WP (103, 220, [.ref 84, .int x1, .int x2, .int x3, .int x4, .int x5, .int x6, .int y0], [.int (-1 : Int32)], (I, J, rf_w r, sh_w N, n), (0, 0)) Q)) ∧
        (¬ (x6 ≤ (15 : Int32)) →
        (mc_WP (103, 220, [.ref 84, .int x1, .int x2, .int x3, .int x4, .int x5, .int x6, .int y0], [.int y0], (I, J, rf_w r, sh_w N, n), (0, 0)) Q))) :
    mc_WP (103, 205, [.ref 84, .int x1, .int x2, .int x3, .int x4, .int x5, .int x6, x7], [.int y0], (I, J, rf_w r, sh_w N, n), (0, 0)) Q := by
  exact (mc_WP.run (mc_adjs _) 4 (And.intro (fun c4 => (mc_WP.run (mc_adjs _) 1 (h.1 c4))) (fun c4 => (mc_WP.run (mc_adjs _) 2 (h.2 c4)))))
set_option maxRecDepth 20000 in
theorem bk_103_220 {x1 : Int32} {x2 : Int32} {x3 : Int32} {x4 : Int32} {x5 : Int32} {x6 : Int32} {x7 : Int32} {y0 : Int32}
    (h : mc_WP (103, 276, [.ref 84, .int x1, .int x2, .int y0, .int x4, .int x5, .int x6, .int x7], [], (I, J, rf_w r, sh_w N, n), (0, 0)) Q) :
    mc_WP (103, 220, [.ref 84, .int x1, .int x2, .int x3, .int x4, .int x5, .int x6, .int x7], [.int y0], (I, J, rf_w r, sh_w N, n), (0, 0)) Q := by
  exact (mc_WP.run (mc_adjs _) 2 h)
set_option maxRecDepth 20000 in
theorem bk_103_246 {x1 : Int32} {x2 : Int32} {x3 : Int32} {x4 : Int32} {x5 : Int32} {x6 : Value} {x7 : Value}
    (h : mc_WP (103, 276, [.ref 84, .int (0 : Int32), .int (0 : Int32), .int (-1 : Int32), .int x4, .int x5, x6, x7], [], (I, J, rf_w r, sh_w N, n), (0, 0)) Q) :
    mc_WP (103, 246, [.ref 84, .int x1, .int x2, .int x3, .int x4, .int x5, x6, x7], [], (I, J, rf_w r, sh_w N, n), (0, 0)) Q := by
  exact (mc_WP.run (mc_adjs _) 7 h)
set_option maxRecDepth 20000 in
theorem bk_103_255 {x1 : Int32} {x2 : Int32} {x3 : Int32} {x4 : Int32} {x5 : Int32} {x6 : Value} {x7 : Value}
    (h : ((I 84 22) = 0 →
        (mc_WP (103, 272, [.ref 84, .int x1, .int x2, .int x3, .int x4, .int x5, x6, x7], [.ref 84], (I, J, rf_w r, sh_w N, n), (0, 0)) Q)) ∧
        (¬ ((I 84 22) = 0) →
        ((x4 = 0 →
          (mc_WP (103, 272, [.ref 84, .int x1, .int x2, .int x3, .int x4, .int x5, x6, x7], [.ref 84], (I, J, rf_w r, sh_w N, n), (0, 0)) Q)) ∧
          (¬ (x4 = 0) →
          (mc_WP (103, 273, [.ref 84, .int x1, .int x2, .int x3, .int x4, .int x5, x6, x7], [.int (1 : Int32), .ref 84], (I, J, rf_w r, sh_w N, n), (0, 0)) Q))))) :
    mc_WP (103, 255, [.ref 84, .int x1, .int x2, .int x3, .int x4, .int x5, x6, x7], [], (I, J, rf_w r, sh_w N, n), (0, 0)) Q := by
  exact (mc_WP.run (mc_adjs _) 4 (And.intro rfl (And.intro (fun c4 => (h.1 c4)) (fun c4 => (mc_WP.run (mc_adjs _) 2 (And.intro (fun c5 => ((h.2 c4).1 c5)) (fun c5 => (mc_WP.run (mc_adjs _) 2 ((h.2 c4).2 c5)))))))))
set_option maxRecDepth 20000 in
theorem bk_103_272 {x1 : Int32} {x2 : Int32} {x3 : Int32} {x4 : Int32} {x5 : Int32} {x6 : Value} {x7 : Value}
    (h : mc_WP (103, 273, [.ref 84, .int x1, .int x2, .int x3, .int x4, .int x5, x6, x7], [.int (0 : Int32), .ref 84], (I, J, rf_w r, sh_w N, n), (0, 0)) Q) :
    mc_WP (103, 272, [.ref 84, .int x1, .int x2, .int x3, .int x4, .int x5, x6, x7], [.ref 84], (I, J, rf_w r, sh_w N, n), (0, 0)) Q := by
  exact (mc_WP.run (mc_adjs _) 1 h)
set_option maxRecDepth 20000 in
theorem bk_103_273 {x1 : Int32} {x2 : Int32} {x3 : Int32} {x4 : Int32} {x5 : Int32} {x6 : Value} {x7 : Value} {y1 : Int32}
    (h : (y1 = 0 ∨ y1 = 1) ∧ mc_WP (103, 276, [.ref 84, .int x1, .int x2, .int x3, .int x4, .int x5, x6, x7], [], ((mc_up I 84 22 y1), J, rf_w r, sh_w N, n), (0, 0)) Q) :
    mc_WP (103, 273, [.ref 84, .int x1, .int x2, .int x3, .int x4, .int x5, x6, x7], [.int y1, .ref 84], (I, J, rf_w r, sh_w N, n), (0, 0)) Q := by
  exact (mc_WP.run (mc_adjs _) 1 (And.intro ⟨rfl, h.1⟩ h.2))
set_option maxRecDepth 20000 in
theorem bk_103_276 {x1 : Int32} {x2 : Int32} {x3 : Int32} {x4 : Int32} {x5 : Int32} {x6 : Value} {x7 : Value}
    (h : mc_WP (103, 87, [.ref 84, .int x1, .int x2, .int x3, .int x4, .int x5, x6, x7], [], (I, J, rf_w r, sh_w N, n), (0, 0)) Q) :
    mc_WP (103, 276, [.ref 84, .int x1, .int x2, .int x3, .int x4, .int x5, x6, x7], [], (I, J, rf_w r, sh_w N, n), (0, 0)) Q := by
  exact (mc_WP.run (mc_adjs _) 1 h)
set_option maxRecDepth 20000 in
theorem bk_103_279 {x1 : Int32} {x2 : Int32} {x3 : Int32} {x4 : Int32} {x5 : Value} {x6 : Value} {x7 : Value}
    (h : ((I 84 22) = 0 →
        (mc_WP (103, 302, [.ref 84, .int x1, .int x2, .int x3, .int x4, x5, x6, x7], [.ref 84], (I, J, rf_w r, sh_w N, n), (0, 0)) Q)) ∧
        (¬ ((I 84 22) = 0) →
        ((¬ (I 84 21) = (I 84 10) →
          (mc_WP (103, 302, [.ref 84, .int x1, .int x2, .int x3, .int x4, x5, x6, x7], [.ref 84], (I, J, rf_w r, sh_w N, n), (0, 0)) Q)) ∧
          (¬ (¬ (I 84 21) = (I 84 10)) →
          (mc_WP (103, 303, [.ref 84, .int x1, .int x2, .int x3, .int x4, x5, x6, x7], [.int (1 : Int32), .ref 84], (I, J, rf_w r, sh_w N, n), (0, 0)) Q))))) :
    mc_WP (103, 279, [.ref 84, .int x1, .int x2, .int x3, .int x4, x5, x6, x7], [], (I, J, rf_w r, sh_w N, n), (0, 0)) Q := by
  exact (mc_WP.run (mc_adjs _) 4 (And.intro rfl (And.intro (fun c4 => (h.1 c4)) (fun c4 => (mc_WP.run (mc_adjs _) 5 (And.intro rfl (And.intro rfl (And.intro (fun c5 => ((h.2 c4).1 c5)) (fun c5 => (mc_WP.run (mc_adjs _) 2 ((h.2 c4).2 c5)))))))))))
set_option maxRecDepth 20000 in
theorem bk_103_302 {x1 : Int32} {x2 : Int32} {x3 : Int32} {x4 : Int32} {x5 : Value} {x6 : Value} {x7 : Value}
    (h : mc_WP (103, 303, [.ref 84, .int x1, .int x2, .int x3, .int x4, x5, x6, x7], [.int (0 : Int32), .ref 84], (I, J, rf_w r, sh_w N, n), (0, 0)) Q) :
    mc_WP (103, 302, [.ref 84, .int x1, .int x2, .int x3, .int x4, x5, x6, x7], [.ref 84], (I, J, rf_w r, sh_w N, n), (0, 0)) Q := by
  exact (mc_WP.run (mc_adjs _) 1 h)
set_option maxRecDepth 20000 in
theorem bk_103_303 {x1 : Int32} {x2 : Int32} {x3 : Int32} {x4 : Int32} {x5 : Value} {x6 : Value} {x7 : Value} {y1 : Int32}
    (h : (y1 = 0 ∨ y1 = 1) ∧ Q (.inl none) ((mc_up I 84 22 y1), J, rf_w r, sh_w N, n)) :
    mc_WP (103, 303, [.ref 84, .int x1, .int x2, .int x3, .int x4, x5, x6, x7], [.int y1, .ref 84], (I, J, rf_w r, sh_w N, n), (0, 0)) Q := by
  exact (mc_WP.run (mc_adjs _) 2 (And.intro ⟨rfl, h.1⟩ h.2))
end
