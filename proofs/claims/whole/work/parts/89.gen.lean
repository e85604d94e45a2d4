/-! what the code does while all is made (printed by blocks.py) -/
section
variable {I : Nat → Nat → Int32} {J : Nat → Nat → Int64} {P : Nat → Nat → Nat} {S : Nat → Nat × Nat} {n : Nat} {Q : mc_Q}
-- 24 <init>()V made
set_option maxRecDepth 20000 in
theorem bg_24_0 {a0 : Nat}
    (h : 10 ≤ n ∧ ((mc_row S n (2, 16)) a0 = (1, 6) ∧ ¬ n = 0) ∧ Q (.inl none) ((mc_row I n (fun _ => 0)), (mc_row J n (fun _ => 0)), (mc_up (mc_row P n (fun _ => 0)) a0 0 n), (mc_row S n (2, 16)), (n + 1))) :
    mc_WP (mc_en 24 [.ref a0] (I, J, P, S, n)) Q := by
  exact (mc_WP.run (mc_adjs _) 7 (And.intro (And.intro h.1 (And.intro (by decide) (And.intro (by decide) (And.intro (by decide) (by decide))))) (And.intro h.2.1 h.2.2)))
-- 27 <init>()V made
set_option maxRecDepth 20000 in
theorem bg_27_0 {a0 : Nat}
    (h : 10 ≤ n ∧ ∃ R : mc_Q, mc_WP (mc_en 24 [.ref n] ((mc_row I n (fun _ => 0)), (mc_row J n (fun _ => 0)), (mc_row P n (fun _ => 0)), (mc_row S n (1, 6)), (n + 1))) R ∧ (∀ v t, R (.inl v) t → mc_WP (27, 12, [.ref a0, .null], v.toList ++ [.ref n, .ref a0], t, (2, 18)) Q) ∧ (∀ k t, R (.inr k) t → Q (.inr k) t)) :
    mc_WP (mc_en 27 [.ref a0] (I, J, P, S, n)) Q := by
  exact (mc_WP.run (mc_adjs _) 6 (And.intro (And.intro h.1 (And.intro (by decide) (by decide))) (And.intro (by decide) (And.intro (by decide) h.2))))
set_option maxRecDepth 20000 in
theorem bg_27_12 {a0 : Nat} {b0 : Nat} {b1 : Nat}
    (h : (S b0 = (1, 9) ∧ ¬ b1 = 0) ∧ 10 ≤ n ∧ ((mc_row S n (3, 4)) a0 = (1, 9) ∧ ¬ n = 0) ∧ mc_WP (27, 25, [.ref a0, .int (0 : Int32)], [], ((mc_row I n (fun _ => 0)), (mc_row J n (fun _ => 0)), (mc_up (mc_row (mc_up P b0 0 b1) n (fun _ => 0)) a0 1 n), (mc_row S n (3, 4)), (n + 1)), (3, 22)) Q) :
    mc_WP (27, 12, [.ref a0, .null], [.ref b1, .ref b0], (I, J, P, S, n), (2, 18)) Q := by
  exact (mc_WP.run (mc_adjs _) 7 (And.intro h.1 (And.intro (And.intro h.2.1 (And.intro (by decide) (And.intro (by decide) (And.intro (by decide) (by decide))))) (And.intro h.2.2.1 h.2.2.2))))
set_option maxRecDepth 20000 in
theorem bg_27_25 {a0 : Nat} {x1 : Int32} {u : mc_U}
    (h : ((4 : Int32) ≤ x1 → (Q (.inl none) (I, J, P, S, n))) ∧
        (¬ ((4 : Int32) ≤ x1) →
        ((S a0 = (1, 9) ∧ ¬ P a0 1 = 0) ∧ (10 ≤ n ∧ u.1 + 1 ≤ 19 ∧ u.2 + 10 ≤ 390) ∧ (u.1 + 1, u.2 + 10).1 + 3 ≤ 19 ∧ (u.1 + 1, u.2 + 10).2 + 82 ≤ 390 ∧ ∃ R : mc_Q, mc_WP (mc_en 22 [.ref n] ((mc_row I n (fun _ => 0)), (mc_row J n (fun _ => 0)), (mc_row P n (fun _ => 0)), (mc_row S n (1, 4)), (n + 1))) R ∧ (∀ v t, R (.inl v) t → mc_WP (27, 42, [.ref a0, .int x1], v.toList ++ [.ref n, .int x1, .ref (P a0 1)], t, ((u.1 + 1, u.2 + 10).1 + 3, (u.1 + 1, u.2 + 10).2 + 82)) Q) ∧ (∀ k t, R (.inr k) t → Q (.inr k) t)))) :
    mc_WP (27, 25, [.ref a0, .int x1], [], (I, J, P, S, n), u) Q := by
  exact (mc_WP.run (mc_adjs _) 3 (And.intro (fun c4 => (mc_WP.run (mc_adjs _) 1 (h.1 c4))) (fun c4 => (mc_WP.run (mc_adjs _) 6 (And.intro (h.2 c4).1 (And.intro (h.2 c4).2.1 (h.2 c4).2.2))))))
set_option maxRecDepth 20000 in
theorem bg_27_42 {a0 : Nat} {x1 : Int32} {b0 : Nat} {y1 : Int32} {b2 : Nat} {u : mc_U}
    (h : ((S b0).1 = 3 ∧ vp_in y1 (S b0).2 ∧ 10 ≤ b0 ∧ S b2 = (1, 4) ∧ ¬ b2 = 0) ∧ mc_WP (27, 25, [.ref a0, .int (x1 + (1 : Int32))], [], (I, J, (mc_up P b0 y1.toNatClampNeg b2), S, n), u) Q) :
    mc_WP (27, 42, [.ref a0, .int x1], [.ref b2, .int y1, .ref b0], (I, J, P, S, n), u) Q := by
  exact (mc_WP.run (mc_adjs _) 3 (And.intro h.1 h.2))
-- 20 <init>(I)V made
set_option maxRecDepth 20000 in
theorem bg_20_0 {a0 : Nat} {x1 : Int32}
    (h : (10 ≤ n ∧ ¬ x1 < 0 ∧ x1.toNatClampNeg ≤ 1000 ∧ 0 + x1.toNatClampNeg ≤ 800) ∧ ((mc_row S n (2, x1.toNatClampNeg)) a0 = (1, 1) ∧ ¬ n = 0) ∧ Q (.inl none) ((mc_row I n (fun _ => 0)), (mc_row J n (fun _ => 0)), (mc_up (mc_row P n (fun _ => 0)) a0 0 n), (mc_row S n (2, x1.toNatClampNeg)), (n + 1))) :
    mc_WP (mc_en 20 [.ref a0, .int x1] (I, J, P, S, n)) Q := by
  exact (mc_WP.run (mc_adjs _) 7 (And.intro (And.intro h.1.1 (And.intro h.1.2.1 (And.intro h.1.2.2.1 (And.intro (by decide) h.1.2.2.2)))) (And.intro h.2.1 h.2.2)))
-- 21 <init>()V made
set_option maxRecDepth 20000 in
theorem bg_21_0 {a0 : Nat}
    (h : 10 ≤ n ∧ ((mc_row S n (2, 64)) a0 = (1, 2) ∧ ¬ n = 0) ∧ mc_WP (21, 12, [.ref a0], [], ((mc_row I n (fun _ => 0)), (mc_row J n (fun _ => 0)), (mc_up (mc_row P n (fun _ => 0)) a0 0 n), (mc_row S n (2, 64)), (n + 1)), (1, 64)) Q) :
    mc_WP (mc_en 21 [.ref a0] (I, J, P, S, n)) Q := by
  exact (mc_WP.run (mc_adjs _) 6 (And.intro (And.intro h.1 (And.intro (by decide) (And.intro (by decide) (And.intro (by decide) (by decide))))) (And.intro h.2.1 h.2.2)))
set_option maxRecDepth 20000 in
theorem bg_21_12 {a0 : Nat}
    (h : 10 ≤ n ∧ ((mc_row S n (2, 64)) a0 = (1, 2) ∧ ¬ n = 0) ∧ Q (.inl none) ((mc_row I n (fun _ => 0)), (mc_row J n (fun _ => 0)), (mc_up (mc_row P n (fun _ => 0)) a0 1 n), (mc_row S n (2, 64)), (n + 1))) :
    mc_WP (21, 12, [.ref a0], [], (I, J, P, S, n), (1, 64)) Q := by
  exact (mc_WP.run (mc_adjs _) 5 (And.intro (And.intro h.1 (And.intro (by decide) (And.intro (by decide) (And.intro (by decide) (by decide))))) (And.intro h.2.1 h.2.2)))
-- 22 <init>()V made
set_option maxRecDepth 20000 in
theorem bg_22_0 {a0 : Nat}
    (h : 10 ≤ n ∧ ((mc_row S n (2, 64)) a0 = (1, 4) ∧ ¬ n = 0) ∧ 10 ≤ (n + 1) ∧ ∃ R : mc_Q, mc_WP (mc_en 24 [.ref (n + 1)] ((mc_row (mc_row I n (fun _ => 0)) (n + 1) (fun _ => 0)), (mc_row (mc_row J n (fun _ => 0)) (n + 1) (fun _ => 0)), (mc_row (mc_up (mc_row P n (fun _ => 0)) a0 0 n) (n + 1) (fun _ => 0)), (mc_row (mc_row S n (2, 64)) (n + 1) (1, 6)), ((n + 1) + 1))) R ∧ (∀ v t, R (.inl v) t → mc_WP (22, 20, [.ref a0], v.toList ++ [.ref (n + 1), .ref a0], t, (3, 82)) Q) ∧ (∀ k t, R (.inr k) t → Q (.inr k) t)) :
    mc_WP (mc_en 22 [.ref a0] (I, J, P, S, n)) Q := by
  exact (mc_WP.run (mc_adjs _) 10 (And.intro (And.intro h.1 (And.intro (by decide) (And.intro (by decide) (And.intro (by decide) (by decide))))) (And.intro h.2.1 (And.intro (And.intro h.2.2.1 (And.intro (by decide) (by decide))) (And.intro (by decide) (And.intro (by decide) h.2.2.2))))))
set_option maxRecDepth 20000 in
theorem bg_22_20 {a0 : Nat} {b0 : Nat} {b1 : Nat}
    (h : (S b0 = (1, 4) ∧ ¬ b1 = 0) ∧ Q (.inl none) (I, J, (mc_up P b0 1 b1), S, n)) :
    mc_WP (22, 20, [.ref a0], [.ref b1, .ref b0], (I, J, P, S, n), (3, 82)) Q := by
  exact (mc_WP.run (mc_adjs _) 2 (And.intro h.1 h.2))
-- 23 <init>(LPaletteReel$ByteRow;)V made
set_option maxRecDepth 20000 in
theorem bg_23_0 {a0 : Nat} {a1 : Nat}
    (h : 10 ≤ n ∧ ∃ R : mc_Q, mc_WP (mc_en 28 [.ref n] ((mc_row I n (fun _ => 0)), (mc_row J n (fun _ => 0)), (mc_row P n (fun _ => 0)), (mc_row S n (1, 10)), (n + 1))) R ∧ (∀ v t, R (.inl v) t → mc_WP (23, 12, [.ref a0, .ref a1], v.toList ++ [.ref n, .ref a0], t, (5, 264)) Q) ∧ (∀ k t, R (.inr k) t → Q (.inr k) t)) :
    mc_WP (mc_en 23 [.ref a0, .ref a1] (I, J, P, S, n)) Q := by
  exact (mc_WP.run (mc_adjs _) 6 (And.intro (And.intro h.1 (And.intro (by decide) (by decide))) (And.intro (by decide) (And.intro (by decide) h.2))))
set_option maxRecDepth 20000 in
theorem bg_23_12 {a0 : Nat} {a1 : Nat} {b0 : Nat} {b1 : Nat}
    (h : (S b0 = (1, 5) ∧ ¬ b1 = 0) ∧ 10 ≤ n ∧ ((mc_row S n (2, 64)) a0 = (1, 5) ∧ ¬ n = 0) ∧ mc_WP (23, 23, [.ref a0, .ref a1], [], ((mc_row I n (fun _ => 0)), (mc_row J n (fun _ => 0)), (mc_up (mc_row (mc_up P b0 0 b1) n (fun _ => 0)) a0 1 n), (mc_row S n (2, 64)), (n + 1)), (6, 328)) Q) :
    mc_WP (23, 12, [.ref a0, .ref a1], [.ref b1, .ref b0], (I, J, P, S, n), (5, 264)) Q := by
  exact (mc_WP.run (mc_adjs _) 5 (And.intro h.1 (And.intro (And.intro h.2.1 (And.intro (by decide) (And.intro (by decide) (And.intro (by decide) (by decide))))) (And.intro h.2.2.1 h.2.2.2))))
set_option maxRecDepth 20000 in
theorem bg_23_23 {a0 : Nat} {a1 : Nat}
    (h : 10 ≤ n ∧ ∃ R : mc_Q, mc_WP (mc_en 20 [.ref n, .int (64 : Int32)] ((mc_row I n (fun _ => 0)), (mc_row J n (fun _ => 0)), (mc_row P n (fun _ => 0)), (mc_row S n (1, 1)), (n + 1))) R ∧ (∀ v t, R (.inl v) t → mc_WP (23, 33, [.ref a0, .ref a1], v.toList ++ [.ref n, .ref a0], t, (8, 1130)) Q) ∧ (∀ k t, R (.inr k) t → Q (.inr k) t)) :
    mc_WP (23, 23, [.ref a0, .ref a1], [], (I, J, P, S, n), (6, 328)) Q := by
  exact (mc_WP.run (mc_adjs _) 5 (And.intro (And.intro h.1 (And.intro (by decide) (by decide))) (And.intro (by decide) (And.intro (by decide) h.2))))
set_option maxRecDepth 20000 in
theorem bg_23_33 {a0 : Nat} {a1 : Nat} {b0 : Nat} {b1 : Nat}
    (h : (S b0 = (1, 5) ∧ ¬ b1 = 0) ∧ (S a0 = (1, 5) ∧ ¬ a1 = 0) ∧ Q (.inl none) (I, J, (mc_up (mc_up P b0 2 b1) a0 3 a1), S, n)) :
    mc_WP (23, 33, [.ref a0, .ref a1], [.ref b1, .ref b0], (I, J, P, S, n), (8, 1130)) Q := by
  exact (mc_WP.run (mc_adjs _) 5 (And.intro h.1 (And.intro h.2.1 h.2.2)))
-- 25 <init>(LPaletteReel$ByteRow;)V made
set_option maxRecDepth 20000 in
theorem bg_25_0 {a0 : Nat} {a1 : Nat}
    (h : 10 ≤ n ∧ ∃ R : mc_Q, mc_WP (mc_en 20 [.ref n, .int (800 : Int32)] ((mc_row I n (fun _ => 0)), (mc_row J n (fun _ => 0)), (mc_row P n (fun _ => 0)), (mc_row S n (1, 1)), (n + 1))) R ∧ (∀ v t, R (.inl v) t → mc_WP (25, 15, [.ref a0, .ref a1], v.toList ++ [.ref n, .ref a0], t, (2, 802)) Q) ∧ (∀ k t, R (.inr k) t → Q (.inr k) t)) :
    mc_WP (mc_en 25 [.ref a0, .ref a1] (I, J, P, S, n)) Q := by
  exact (mc_WP.run (mc_adjs _) 7 (And.intro (And.intro h.1 (And.intro (by decide) (by decide))) (And.intro (by decide) (And.intro (by decide) h.2))))
set_option maxRecDepth 20000 in
theorem bg_25_15 {a0 : Nat} {a1 : Nat} {b0 : Nat} {b1 : Nat}
    (h : (S b0 = (1, 7) ∧ ¬ b1 = 0) ∧ 10 ≤ n ∧ ∃ R : mc_Q, mc_WP (mc_en 28 [.ref n] ((mc_row I n (fun _ => 0)), (mc_row J n (fun _ => 0)), (mc_row (mc_up P b0 1 b1) n (fun _ => 0)), (mc_row S n (1, 10)), (n + 1))) R ∧ (∀ v t, R (.inl v) t → mc_WP (25, 26, [.ref a0, .ref a1], v.toList ++ [.ref n, .ref a0], t, (7, 1066)) Q) ∧ (∀ k t, R (.inr k) t → Q (.inr k) t)) :
    mc_WP (25, 15, [.ref a0, .ref a1], [.ref b1, .ref b0], (I, J, P, S, n), (2, 802)) Q := by
  exact (mc_WP.run (mc_adjs _) 5 (And.intro h.1 (And.intro (And.intro h.2.1 (And.intro (by decide) (by decide))) (And.intro (by decide) (And.intro (by decide) h.2.2)))))
set_option maxRecDepth 20000 in
theorem bg_25_26 {a0 : Nat} {a1 : Nat} {b0 : Nat} {b1 : Nat}
    (h : (S b0 = (1, 7) ∧ ¬ b1 = 0) ∧ 10 ≤ n ∧ ((mc_row S n (2, 64)) a0 = (1, 7) ∧ ¬ n = 0) ∧ mc_WP (25, 37, [.ref a0, .ref a1], [], ((mc_row I n (fun _ => 0)), (mc_row J n (fun _ => 0)), (mc_up (mc_row (mc_up P b0 2 b1) n (fun _ => 0)) a0 3 n), (mc_row S n (2, 64)), (n + 1)), (8, 1130)) Q) :
    mc_WP (25, 26, [.ref a0, .ref a1], [.ref b1, .ref b0], (I, J, P, S, n), (7, 1066)) Q := by
  exact (mc_WP.run (mc_adjs _) 5 (And.intro h.1 (And.intro (And.intro h.2.1 (And.intro (by decide) (And.intro (by decide) (And.intro (by decide) (by decide))))) (And.intro h.2.2.1 h.2.2.2))))
set_option maxRecDepth 20000 in
theorem bg_25_37 {a0 : Nat} {a1 : Nat}
    (h : 10 ≤ n ∧ ∃ R : mc_Q, mc_WP (mc_en 133 [.ref n, .ref a1] ((mc_row I n (fun _ => 0)), (mc_row J n (fun _ => 0)), (mc_row P n (fun _ => 0)), (mc_row S n (1, 3)), (n + 1))) R ∧ (∀ v t, R (.inl v) t → mc_WP (25, 46, [.ref a0, .ref a1], v.toList ++ [.ref n, .ref a0], t, (9, 1133)) Q) ∧ (∀ k t, R (.inr k) t → Q (.inr k) t)) :
    mc_WP (25, 37, [.ref a0, .ref a1], [], (I, J, P, S, n), (8, 1130)) Q := by
  exact (mc_WP.run (mc_adjs _) 5 (And.intro (And.intro h.1 (And.intro (by decide) (by decide))) (And.intro (by decide) (And.intro (by decide) h.2))))
set_option maxRecDepth 20000 in
theorem bg_25_46 {a0 : Nat} {a1 : Nat} {b0 : Nat} {b1 : Nat}
    (h : (S b0 = (1, 7) ∧ ¬ b1 = 0) ∧ Q (.inl none) (I, J, (mc_up P b0 0 b1), S, n)) :
    mc_WP (25, 46, [.ref a0, .ref a1], [.ref b1, .ref b0], (I, J, P, S, n), (9, 1133)) Q := by
  exact (mc_WP.run (mc_adjs _) 2 (And.intro h.1 h.2))
-- 26 <init>([I)V made
set_option maxRecDepth 20000 in
theorem bg_26_0 {a0 : Nat} {a1 : Nat}
    (h : 10 ≤ n ∧ ((mc_row S n (2, 64)) a0 = (1, 8) ∧ ¬ n = 0) ∧ mc_WP (26, 12, [.ref a0, .ref a1], [], ((mc_row I n (fun _ => 0)), (mc_row J n (fun _ => 0)), (mc_up (mc_row P n (fun _ => 0)) a0 1 n), (mc_row S n (2, 64)), (n + 1)), (1, 64)) Q) :
    mc_WP (mc_en 26 [.ref a0, .ref a1] (I, J, P, S, n)) Q := by
  exact (mc_WP.run (mc_adjs _) 6 (And.intro (And.intro h.1 (And.intro (by decide) (And.intro (by decide) (And.intro (by decide) (by decide))))) (And.intro h.2.1 h.2.2)))
set_option maxRecDepth 20000 in
theorem bg_26_12 {a0 : Nat} {a1 : Nat}
    (h : 10 ≤ n ∧ ((mc_row S n (2, 64)) a0 = (1, 8) ∧ ¬ n = 0) ∧ mc_WP (26, 20, [.ref a0, .ref a1], [], ((mc_row I n (fun _ => 0)), (mc_row J n (fun _ => 0)), (mc_up (mc_row P n (fun _ => 0)) a0 2 n), (mc_row S n (2, 64)), (n + 1)), (2, 128)) Q) :
    mc_WP (26, 12, [.ref a0, .ref a1], [], (I, J, P, S, n), (1, 64)) Q := by
  exact (mc_WP.run (mc_adjs _) 4 (And.intro (And.intro h.1 (And.intro (by decide) (And.intro (by decide) (And.intro (by decide) (by decide))))) (And.intro h.2.1 h.2.2)))
set_option maxRecDepth 20000 in
theorem bg_26_20 {a0 : Nat} {a1 : Nat}
    (h : 10 ≤ n ∧ ((mc_row S n (2, 16)) a0 = (1, 8) ∧ ¬ n = 0) ∧ mc_WP (26, 28, [.ref a0, .ref a1], [], ((mc_row I n (fun _ => 0)), (mc_row J n (fun _ => 0)), (mc_up (mc_row P n (fun _ => 0)) a0 3 n), (mc_row S n (2, 16)), (n + 1)), (3, 144)) Q) :
    mc_WP (26, 20, [.ref a0, .ref a1], [], (I, J, P, S, n), (2, 128)) Q := by
  exact (mc_WP.run (mc_adjs _) 4 (And.intro (And.intro h.1 (And.intro (by decide) (And.intro (by decide) (And.intro (by decide) (by decide))))) (And.intro h.2.1 h.2.2)))
set_option maxRecDepth 20000 in
theorem bg_26_28 {a0 : Nat} {a1 : Nat}
    (h : 10 ≤ n ∧ ((mc_row S n (2, 16)) a0 = (1, 8) ∧ ¬ n = 0) ∧ mc_WP (26, 36, [.ref a0, .ref a1], [], ((mc_row I n (fun _ => 0)), (mc_row J n (fun _ => 0)), (mc_up (mc_row P n (fun _ => 0)) a0 4 n), (mc_row S n (2, 16)), (n + 1)), (4, 160)) Q) :
    mc_WP (26, 28, [.ref a0, .ref a1], [], (I, J, P, S, n), (3, 144)) Q := by
  exact (mc_WP.run (mc_adjs _) 4 (And.intro (And.intro h.1 (And.intro (by decide) (And.intro (by decide) (And.intro (by decide) (by decide))))) (And.intro h.2.1 h.2.2)))
set_option maxRecDepth 20000 in
theorem bg_26_36 {a0 : Nat} {a1 : Nat}
    (h : 10 ≤ n ∧ ((mc_row S n (2, 16)) a0 = (1, 8) ∧ ¬ n = 0) ∧ mc_WP (26, 44, [.ref a0, .ref a1], [], ((mc_row I n (fun _ => 0)), (mc_row J n (fun _ => 0)), (mc_up (mc_row P n (fun _ => 0)) a0 5 n), (mc_row S n (2, 16)), (n + 1)), (5, 176)) Q) :
    mc_WP (26, 36, [.ref a0, .ref a1], [], (I, J, P, S, n), (4, 160)) Q := by
  exact (mc_WP.run (mc_adjs _) 4 (And.intro (And.intro h.1 (And.intro (by decide) (And.intro (by decide) (And.intro (by decide) (by decide))))) (And.intro h.2.1 h.2.2)))
set_option maxRecDepth 20000 in
theorem bg_26_44 {a0 : Nat} {a1 : Nat}
    (h : 10 ≤ n ∧ ((mc_row S n (2, 192)) a0 = (1, 8) ∧ ¬ n = 0) ∧ mc_WP (26, 53, [.ref a0, .ref a1], [], ((mc_row I n (fun _ => 0)), (mc_row J n (fun _ => 0)), (mc_up (mc_row P n (fun _ => 0)) a0 6 n), (mc_row S n (2, 192)), (n + 1)), (6, 368)) Q) :
    mc_WP (26, 44, [.ref a0, .ref a1], [], (I, J, P, S, n), (5, 176)) Q := by
  exact (mc_WP.run (mc_adjs _) 4 (And.intro (And.intro h.1 (And.intro (by decide) (And.intro (by decide) (And.intro (by decide) (by decide))))) (And.intro h.2.1 h.2.2)))
set_option maxRecDepth 20000 in
theorem bg_26_53 {a0 : Nat} {a1 : Nat}
    (h : 10 ≤ n ∧ ((mc_row S n (2, 3)) a0 = (1, 8) ∧ ¬ n = 0) ∧ mc_WP (26, 60, [.ref a0, .ref a1], [], ((mc_row I n (fun _ => 0)), (mc_row J n (fun _ => 0)), (mc_up (mc_row P n (fun _ => 0)) a0 7 n), (mc_row S n (2, 3)), (n + 1)), (7, 371)) Q) :
    mc_WP (26, 53, [.ref a0, .ref a1], [], (I, J, P, S, n), (6, 368)) Q := by
  exact (mc_WP.run (mc_adjs _) 4 (And.intro (And.intro h.1 (And.intro (by decide) (And.intro (by decide) (And.intro (by decide) (by decide))))) (And.intro h.2.1 h.2.2)))
set_option maxRecDepth 20000 in
theorem bg_26_60 {a0 : Nat} {a1 : Nat}
    (h : (S a0 = (1, 8) ∧ ¬ a1 = 0) ∧ Q (.inl none) (I, J, (mc_up P a0 0 a1), S, n)) :
    mc_WP (26, 60, [.ref a0, .ref a1], [], (I, J, P, S, n), (7, 371)) Q := by
  exact (mc_WP.run (mc_adjs _) 4 (And.intro h.1 h.2))
-- 28 <init>()V made
set_option maxRecDepth 20000 in
theorem bg_28_0 {a0 : Nat}
    (h : 10 ≤ n ∧ ((mc_row S n (2, 64)) a0 = (1, 10) ∧ ¬ n = 0) ∧ mc_WP (28, 12, [.ref a0], [], ((mc_row I n (fun _ => 0)), (mc_row J n (fun _ => 0)), (mc_up (mc_row P n (fun _ => 0)) a0 0 n), (mc_row S n (2, 64)), (n + 1)), (1, 64)) Q) :
    mc_WP (mc_en 28 [.ref a0] (I, J, P, S, n)) Q := by
  exact (mc_WP.run (mc_adjs _) 6 (And.intro (And.intro h.1 (And.intro (by decide) (And.intro (by decide) (And.intro (by decide) (by decide))))) (And.intro h.2.1 h.2.2)))
set_option maxRecDepth 20000 in
theorem bg_28_12 {a0 : Nat}
    (h : 10 ≤ n ∧ ((mc_row S n (2, 64)) a0 = (1, 10) ∧ ¬ n = 0) ∧ mc_WP (28, 20, [.ref a0], [], ((mc_row I n (fun _ => 0)), (mc_row J n (fun _ => 0)), (mc_up (mc_row P n (fun _ => 0)) a0 1 n), (mc_row S n (2, 64)), (n + 1)), (2, 128)) Q) :
    mc_WP (28, 12, [.ref a0], [], (I, J, P, S, n), (1, 64)) Q := by
  exact (mc_WP.run (mc_adjs _) 4 (And.intro (And.intro h.1 (And.intro (by decide) (And.intro (by decide) (And.intro (by decide) (by decide))))) (And.intro h.2.1 h.2.2)))
set_option maxRecDepth 20000 in
theorem bg_28_20 {a0 : Nat}
    (h : 10 ≤ n ∧ ((mc_row S n (2, 64)) a0 = (1, 10) ∧ ¬ n = 0) ∧ mc_WP (28, 28, [.ref a0], [], ((mc_row I n (fun _ => 0)), (mc_row J n (fun _ => 0)), (mc_up (mc_row P n (fun _ => 0)) a0 2 n), (mc_row S n (2, 64)), (n + 1)), (3, 192)) Q) :
    mc_WP (28, 20, [.ref a0], [], (I, J, P, S, n), (2, 128)) Q := by
  exact (mc_WP.run (mc_adjs _) 4 (And.intro (And.intro h.1 (And.intro (by decide) (And.intro (by decide) (And.intro (by decide) (by decide))))) (And.intro h.2.1 h.2.2)))
set_option maxRecDepth 20000 in
theorem bg_28_28 {a0 : Nat}
    (h : 10 ≤ n ∧ ((mc_row S n (2, 64)) a0 = (1, 10) ∧ ¬ n = 0) ∧ Q (.inl none) ((mc_row I n (fun _ => 0)), (mc_row J n (fun _ => 0)), (mc_up (mc_row P n (fun _ => 0)) a0 3 n), (mc_row S n (2, 64)), (n + 1))) :
    mc_WP (28, 28, [.ref a0], [], (I, J, P, S, n), (3, 192)) Q := by
  exact (mc_WP.run (mc_adjs _) 5 (And.intro (And.intro h.1 (And.intro (by decide) (And.intro (by decide) (And.intro (by decide) (by decide))))) (And.intro h.2.1 h.2.2)))
-- 133 <init>(LPaletteReel$ByteRow;)V made
set_option maxRecDepth 20000 in
theorem bg_133_0 {a0 : Nat} {a1 : Nat}
    (h : (S a0 = (1, 3) ∧ ¬ a1 = 0) ∧ Q (.inl none) (I, J, (mc_up P a0 0 a1), S, n)) :
    mc_WP (mc_en 133 [.ref a0, .ref a1] (I, J, P, S, n)) Q := by
  exact (mc_WP.run (mc_adjs _) 6 (And.intro h.1 h.2))
-- 0 <init>(II)V made
set_option maxRecDepth 20000 in
theorem bg_0_0 {a0 : Nat} {x1 : Int32} {x2 : Int32}
    (h : 10 ≤ n ∧ ∃ R : mc_Q, mc_WP (mc_en 21 [.ref n] ((mc_row I n (fun _ => 0)), (mc_row J n (fun _ => 0)), (mc_row P n (fun _ => 0)), (mc_row S n (1, 2)), (n + 1))) R ∧ (∀ v t, R (.inl v) t → mc_WP (0, 12, [.ref a0, .int x1, .int x2, .null, .null], v.toList ++ [.ref n, .ref a0], t, (3, 130)) Q) ∧ (∀ k t, R (.inr k) t → Q (.inr k) t)) :
    mc_WP (mc_en 0 [.ref a0, .int x1, .int x2] (I, J, P, S, n)) Q := by
  exact (mc_WP.run (mc_adjs _) 6 (And.intro (And.intro h.1 (And.intro (by decide) (by decide))) (And.intro (by decide) (And.intro (by decide) h.2))))
set_option maxRecDepth 20000 in
theorem bg_0_12 {a0 : Nat} {x1 : Int32} {x2 : Int32} {b0 : Nat} {b1 : Nat}
    (h : (S b0 = (1, 0) ∧ ¬ b1 = 0) ∧ 10 ≤ n ∧ ∃ R : mc_Q, mc_WP (mc_en 27 [.ref n] ((mc_row I n (fun _ => 0)), (mc_row J n (fun _ => 0)), (mc_row (mc_up P b0 5 b1) n (fun _ => 0)), (mc_row S n (1, 9)), (n + 1))) R ∧ (∀ v t, R (.inl v) t → mc_WP (0, 23, [.ref a0, .int x1, .int x2, .null, .null], v.toList ++ [.ref n, .ref a0], t, (23, 525)) Q) ∧ (∀ k t, R (.inr k) t → Q (.inr k) t)) :
    mc_WP (0, 12, [.ref a0, .int x1, .int x2, .null, .null], [.ref b1, .ref b0], (I, J, P, S, n), (3, 130)) Q := by
  exact (mc_WP.run (mc_adjs _) 5 (And.intro h.1 (And.intro (And.intro h.2.1 (And.intro (by decide) (by decide))) (And.intro (by decide) (And.intro (by decide) h.2.2)))))
set_option maxRecDepth 20000 in
theorem bg_0_23 {a0 : Nat} {x1 : Int32} {x2 : Int32} {b0 : Nat} {b1 : Nat}
    (h : (S b0 = (1, 0) ∧ ¬ b1 = 0) ∧ 10 ≤ n ∧ ∃ R : mc_Q, mc_WP (mc_en 27 [.ref n] ((mc_row I n (fun _ => 0)), (mc_row J n (fun _ => 0)), (mc_row (mc_up P b0 6 b1) n (fun _ => 0)), (mc_row S n (1, 9)), (n + 1))) R ∧ (∀ v t, R (.inl v) t → mc_WP (0, 34, [.ref a0, .int x1, .int x2, .null, .null], v.toList ++ [.ref n, .ref a0], t, (43, 920)) Q) ∧ (∀ k t, R (.inr k) t → Q (.inr k) t)) :
    mc_WP (0, 23, [.ref a0, .int x1, .int x2, .null, .null], [.ref b1, .ref b0], (I, J, P, S, n), (23, 525)) Q := by
  exact (mc_WP.run (mc_adjs _) 5 (And.intro h.1 (And.intro (And.intro h.2.1 (And.intro (by decide) (by decide))) (And.intro (by decide) (And.intro (by decide) h.2.2)))))
set_option maxRecDepth 20000 in
theorem bg_0_34 {a0 : Nat} {x1 : Int32} {x2 : Int32} {b0 : Nat} {b1 : Nat}
    (h : (S b0 = (1, 0) ∧ ¬ b1 = 0) ∧ 10 ≤ n ∧ ∃ R : mc_Q, mc_WP (mc_en 20 [.ref n, .int (800 : Int32)] ((mc_row I n (fun _ => 0)), (mc_row J n (fun _ => 0)), (mc_row (mc_up P b0 7 b1) n (fun _ => 0)), (mc_row S n (1, 1)), (n + 1))) R ∧ (∀ v t, R (.inl v) t → mc_WP (0, 47, [.ref a0, .int x1, .int x2, .null, .null], v.toList ++ [.ref n], t, (45, 1722)) Q) ∧ (∀ k t, R (.inr k) t → Q (.inr k) t)) :
    mc_WP (0, 34, [.ref a0, .int x1, .int x2, .null, .null], [.ref b1, .ref b0], (I, J, P, S, n), (43, 920)) Q := by
  exact (mc_WP.run (mc_adjs _) 5 (And.intro h.1 (And.intro (And.intro h.2.1 (And.intro (by decide) (by decide))) (And.intro (by decide) (And.intro (by decide) h.2.2)))))
set_option maxRecDepth 20000 in
theorem bg_0_47 {a0 : Nat} {x1 : Int32} {x2 : Int32} {b0 : Nat}
    (h : (S a0 = (1, 0) ∧ ¬ b0 = 0) ∧ 10 ≤ n ∧ ∃ R : mc_Q, mc_WP (mc_en 23 [.ref n, .ref b0] ((mc_row I n (fun _ => 0)), (mc_row J n (fun _ => 0)), (mc_row (mc_up P a0 0 b0) n (fun _ => 0)), (mc_row S n (1, 5)), (n + 1))) R ∧ (∀ v t, R (.inl v) t → mc_WP (0, 62, [.ref a0, .int x1, .int x2, .ref b0, .null], v.toList ++ [.ref n, .ref a0], t, (54, 2858)) Q) ∧ (∀ k t, R (.inr k) t → Q (.inr k) t)) :
    mc_WP (0, 47, [.ref a0, .int x1, .int x2, .null, .null], [.ref b0], (I, J, P, S, n), (45, 1722)) Q := by
  exact (mc_WP.run (mc_adjs _) 9 (And.intro h.1 (And.intro (And.intro h.2.1 (And.intro (by decide) (by decide))) (And.intro (by decide) (And.intro (by decide) h.2.2)))))
set_option maxRecDepth 20000 in
theorem bg_0_62 {a0 : Nat} {x1 : Int32} {x2 : Int32} {a3 : Nat} {b0 : Nat} {b1 : Nat}
    (h : (S b0 = (1, 0) ∧ ¬ b1 = 0) ∧ 10 ≤ n ∧ ∃ R : mc_Q, mc_WP (mc_en 25 [.ref n, .ref a3] ((mc_row I n (fun _ => 0)), (mc_row J n (fun _ => 0)), (mc_row (mc_up P b0 1 b1) n (fun _ => 0)), (mc_row S n (1, 7)), (n + 1))) R ∧ (∀ v t, R (.inl v) t → mc_WP (0, 74, [.ref a0, .int x1, .int x2, .ref a3, .null], v.toList ++ [.ref n, .ref a0], t, (64, 3999)) Q) ∧ (∀ k t, R (.inr k) t → Q (.inr k) t)) :
    mc_WP (0, 62, [.ref a0, .int x1, .int x2, .ref a3, .null], [.ref b1, .ref b0], (I, J, P, S, n), (54, 2858)) Q := by
  exact (mc_WP.run (mc_adjs _) 6 (And.intro h.1 (And.intro (And.intro h.2.1 (And.intro (by decide) (by decide))) (And.intro (by decide) (And.intro (by decide) h.2.2)))))
set_option maxRecDepth 20000 in
theorem bg_0_74 {a0 : Nat} {x1 : Int32} {x2 : Int32} {a3 : Nat} {b0 : Nat} {b1 : Nat}
    (h : (S b0 = (1, 0) ∧ ¬ b1 = 0) ∧ 10 ≤ n ∧ mc_WP (0, 83, [.ref a0, .int x1, .int x2, .ref a3, .ref n], [], ((mc_row I n (fun _ => 0)), (mc_row J n (fun _ => 0)), (mc_row (mc_up P b0 2 b1) n (fun _ => 0)), (mc_row S n (2, 64)), (n + 1)), (65, 4063)) Q) :
    mc_WP (0, 74, [.ref a0, .int x1, .int x2, .ref a3, .null], [.ref b1, .ref b0], (I, J, P, S, n), (64, 3999)) Q := by
  exact (mc_WP.run (mc_adjs _) 4 (And.intro h.1 (And.intro (And.intro h.2.1 (And.intro (by decide) (And.intro (by decide) (And.intro (by decide) (by decide))))) h.2.2)))
set_option maxRecDepth 20000 in
theorem bg_0_83 {a0 : Nat} {x1 : Int32} {x2 : Int32} {a3 : Nat} {a4 : Nat}
    (h : (S a0 = (1, 0) ∧ ¬ a4 = 0) ∧ 10 ≤ n ∧ ∃ R : mc_Q, mc_WP (mc_en 26 [.ref n, .ref a4] ((mc_row I n (fun _ => 0)), (mc_row J n (fun _ => 0)), (mc_row (mc_up P a0 3 a4) n (fun _ => 0)), (mc_row S n (1, 8)), (n + 1))) R ∧ (∀ v t, R (.inl v) t → mc_WP (0, 99, [.ref a0, .int x1, .int x2, .ref a3, .ref a4], v.toList ++ [.ref n, .ref a0], t, (73, 4445)) Q) ∧ (∀ k t, R (.inr k) t → Q (.inr k) t)) :
    mc_WP (0, 83, [.ref a0, .int x1, .int x2, .ref a3, .ref a4], [], (I, J, P, S, n), (65, 4063)) Q := by
  exact (mc_WP.run (mc_adjs _) 8 (And.intro h.1 (And.intro (And.intro h.2.1 (And.intro (by decide) (by decide))) (And.intro (by decide) (And.intro (by decide) h.2.2)))))
set_option maxRecDepth 20000 in
theorem bg_0_99 {a0 : Nat} {x1 : Int32} {x2 : Int32} {a3 : Nat} {a4 : Nat} {b0 : Nat} {b1 : Nat}
    (h : (S b0 = (1, 0) ∧ ¬ b1 = 0) ∧ (S a0 = (1, 0) ∧ ¬ (mc_up P b0 4 b1) a0 6 = 0) ∧ S ((mc_up P b0 4 b1) a0 6) = (1, 9) ∧ ∃ R : mc_Q, mc_WP (mc_en 189 [.ref ((mc_up P b0 4 b1) a0 6), .int (if (1 : Int32) < (if x1 < (8 : Int32) then x1 else (8 : Int32)) then (if x1 < (8 : Int32) then x1 else (8 : Int32)) else (1 : Int32)), .int (if (1 : Int32) < (if x2 < (8 : Int32) then x2 else (8 : Int32)) then (if x2 < (8 : Int32) then x2 else (8 : Int32)) else (1 : Int32)), .int (2 : Int32)] (I, J, (mc_up P b0 4 b1), S, n)) R ∧ (∀ v t, R (.inl v) t → mc_WP (0, 130, [.ref a0, .int x1, .int x2, .ref a3, .ref a4], v.toList ++ [], t, (73, 4445)) Q) ∧ (∀ k t, R (.inr k) t → Q (.inr k) t)) :
    mc_WP (0, 99, [.ref a0, .int x1, .int x2, .ref a3, .ref a4], [.ref b1, .ref b0], (I, J, P, S, n), (73, 4445)) Q := by
  exact (mc_WP.run (mc_adjs _) 15 (And.intro h.1 (And.intro h.2.1 (And.intro h.2.2.1 (And.intro (by decide) (And.intro (by decide) h.2.2.2))))))
set_option maxRecDepth 20000 in
theorem bg_0_130 {a0 : Nat} {x1 : Int32} {x2 : Int32} {a3 : Nat} {a4 : Nat}
    (h : (S a0 = (1, 0) ∧ ¬ P a0 5 = 0) ∧ S (P a0 5) = (1, 2) ∧ ∃ R : mc_Q, mc_WP (mc_en 127 [.ref (P a0 5)] (I, J, P, S, n)) R ∧ (∀ v t, R (.inl v) t → mc_WP (0, 137, [.ref a0, .int x1, .int x2, .ref a3, .ref a4], v.toList ++ [], t, (73, 4445)) Q) ∧ (∀ k t, R (.inr k) t → Q (.inr k) t)) :
    mc_WP (0, 130, [.ref a0, .int x1, .int x2, .ref a3, .ref a4], [], (I, J, P, S, n), (73, 4445)) Q := by
  exact (mc_WP.run (mc_adjs _) 3 (And.intro h.1 (And.intro h.2.1 (And.intro (by decide) (And.intro (by decide) h.2.2)))))
set_option maxRecDepth 20000 in
theorem bg_0_137 {a0 : Nat} {x1 : Int32} {x2 : Int32} {a3 : Nat} {a4 : Nat}
    (h : Q (.inl none) (I, J, P, S, n)) :
    mc_WP (0, 137, [.ref a0, .int x1, .int x2, .ref a3, .ref a4], [], (I, J, P, S, n), (73, 4445)) Q := by
  exact (mc_WP.run (mc_adjs _) 1 h)
-- 19 <init>(II)V made
set_option maxRecDepth 20000 in
theorem bg_19_0 {a0 : Nat} {x1 : Int32} {x2 : Int32}
    (h : 10 ≤ n ∧ ((mc_row S n (2, 45)) a0 = (1, 11) ∧ ¬ n = 0) ∧ mc_WP (19, 12, [.ref a0, .int x1, .int x2], [], ((mc_row I n (fun _ => 0)), (mc_row J n (fun _ => 0)), (mc_up (mc_row P n (fun _ => 0)) a0 2 n), (mc_row S n (2, 45)), (n + 1)), (1, 45)) Q) :
    mc_WP (mc_en 19 [.ref a0, .int x1, .int x2] (I, J, P, S, n)) Q := by
  exact (mc_WP.run (mc_adjs _) 6 (And.intro (And.intro h.1 (And.intro (by decide) (And.intro (by decide) (And.intro (by decide) (by decide))))) (And.intro h.2.1 h.2.2)))
set_option maxRecDepth 20000 in
theorem bg_19_12 {a0 : Nat} {x1 : Int32} {x2 : Int32}
    (h : 10 ≤ n ∧ ((mc_row S n (2, 80)) a0 = (1, 11) ∧ ¬ n = 0) ∧ mc_WP (19, 20, [.ref a0, .int x1, .int x2], [], ((mc_row I n (fun _ => 0)), (mc_row J n (fun _ => 0)), (mc_up (mc_row P n (fun _ => 0)) a0 3 n), (mc_row S n (2, 80)), (n + 1)), (2, 125)) Q) :
    mc_WP (19, 12, [.ref a0, .int x1, .int x2], [], (I, J, P, S, n), (1, 45)) Q := by
  exact (mc_WP.run (mc_adjs _) 4 (And.intro (And.intro h.1 (And.intro (by decide) (And.intro (by decide) (And.intro (by decide) (by decide))))) (And.intro h.2.1 h.2.2)))
set_option maxRecDepth 20000 in
theorem bg_19_20 {a0 : Nat} {x1 : Int32} {x2 : Int32}
    (h : 10 ≤ n ∧ ((mc_row S n (2, 256)) a0 = (1, 11) ∧ ¬ n = 0) ∧ mc_WP (19, 29, [.ref a0, .int x1, .int x2], [], ((mc_row I n (fun _ => 0)), (mc_row J n (fun _ => 0)), (mc_up (mc_row P n (fun _ => 0)) a0 4 n), (mc_row S n (2, 256)), (n + 1)), (3, 381)) Q) :
    mc_WP (19, 20, [.ref a0, .int x1, .int x2], [], (I, J, P, S, n), (2, 125)) Q := by
  exact (mc_WP.run (mc_adjs _) 4 (And.intro (And.intro h.1 (And.intro (by decide) (And.intro (by decide) (And.intro (by decide) (by decide))))) (And.intro h.2.1 h.2.2)))
set_option maxRecDepth 20000 in
theorem bg_19_29 {a0 : Nat} {x1 : Int32} {x2 : Int32}
    (h : 10 ≤ n ∧ ((mc_row S n (2, 45)) a0 = (1, 11) ∧ ¬ n = 0) ∧ mc_WP (19, 37, [.ref a0, .int x1, .int x2], [], ((mc_row I n (fun _ => 0)), (mc_row J n (fun _ => 0)), (mc_up (mc_row P n (fun _ => 0)) a0 6 n), (mc_row S n (2, 45)), (n + 1)), (4, 426)) Q) :
    mc_WP (19, 29, [.ref a0, .int x1, .int x2], [], (I, J, P, S, n), (3, 381)) Q := by
  exact (mc_WP.run (mc_adjs _) 4 (And.intro (And.intro h.1 (And.intro (by decide) (And.intro (by decide) (And.intro (by decide) (by decide))))) (And.intro h.2.1 h.2.2)))
set_option maxRecDepth 20000 in
theorem bg_19_37 {a0 : Nat} {x1 : Int32} {x2 : Int32}
    (h : 10 ≤ n ∧ ((mc_row S n (2, 80)) a0 = (1, 11) ∧ ¬ n = 0) ∧ mc_WP (19, 45, [.ref a0, .int x1, .int x2], [], ((mc_row I n (fun _ => 0)), (mc_row J n (fun _ => 0)), (mc_up (mc_row P n (fun _ => 0)) a0 7 n), (mc_row S n (2, 80)), (n + 1)), (5, 506)) Q) :
    mc_WP (19, 37, [.ref a0, .int x1, .int x2], [], (I, J, P, S, n), (4, 426)) Q := by
  exact (mc_WP.run (mc_adjs _) 4 (And.intro (And.intro h.1 (And.intro (by decide) (And.intro (by decide) (And.intro (by decide) (by decide))))) (And.intro h.2.1 h.2.2)))
set_option maxRecDepth 20000 in
theorem bg_19_45 {a0 : Nat} {x1 : Int32} {x2 : Int32}
    (h : 10 ≤ n ∧ ((mc_row S n (2, 256)) a0 = (1, 11) ∧ ¬ n = 0) ∧ mc_WP (19, 54, [.ref a0, .int x1, .int x2], [], ((mc_row I n (fun _ => 0)), (mc_row J n (fun _ => 0)), (mc_up (mc_row P n (fun _ => 0)) a0 8 n), (mc_row S n (2, 256)), (n + 1)), (6, 762)) Q) :
    mc_WP (19, 45, [.ref a0, .int x1, .int x2], [], (I, J, P, S, n), (5, 506)) Q := by
  exact (mc_WP.run (mc_adjs _) 4 (And.intro (And.intro h.1 (And.intro (by decide) (And.intro (by decide) (And.intro (by decide) (by decide))))) (And.intro h.2.1 h.2.2)))
set_option maxRecDepth 20000 in
theorem bg_19_54 {a0 : Nat} {x1 : Int32} {x2 : Int32}
    (h : 10 ≤ n ∧ ((mc_row S n (2, 800)) a0 = (1, 11) ∧ ¬ n = 0) ∧ mc_WP (19, 63, [.ref a0, .int x1, .int x2], [], ((mc_row I n (fun _ => 0)), (mc_row J n (fun _ => 0)), (mc_up (mc_row P n (fun _ => 0)) a0 9 n), (mc_row S n (2, 800)), (n + 1)), (7, 1562)) Q) :
    mc_WP (19, 54, [.ref a0, .int x1, .int x2], [], (I, J, P, S, n), (6, 762)) Q := by
  exact (mc_WP.run (mc_adjs _) 4 (And.intro (And.intro h.1 (And.intro (by decide) (And.intro (by decide) (And.intro (by decide) (by decide))))) (And.intro h.2.1 h.2.2)))
set_option maxRecDepth 20000 in
theorem bg_19_63 {a0 : Nat} {x1 : Int32} {x2 : Int32}
    (h : 10 ≤ n ∧ ((mc_row S n (2, 64)) a0 = (1, 11) ∧ ¬ n = 0) ∧ mc_WP (19, 71, [.ref a0, .int x1, .int x2], [], ((mc_row I n (fun _ => 0)), (mc_row J n (fun _ => 0)), (mc_up (mc_row P n (fun _ => 0)) a0 11 n), (mc_row S n (2, 64)), (n + 1)), (8, 1626)) Q) :
    mc_WP (19, 63, [.ref a0, .int x1, .int x2], [], (I, J, P, S, n), (7, 1562)) Q := by
  exact (mc_WP.run (mc_adjs _) 4 (And.intro (And.intro h.1 (And.intro (by decide) (And.intro (by decide) (And.intro (by decide) (by decide))))) (And.intro h.2.1 h.2.2)))
set_option maxRecDepth 20000 in
theorem bg_19_71 {a0 : Nat} {x1 : Int32} {x2 : Int32}
    (h : 10 ≤ n ∧ ((mc_row S n (2, 64)) a0 = (1, 11) ∧ ¬ n = 0) ∧ mc_WP (19, 79, [.ref a0, .int x1, .int x2], [], ((mc_row I n (fun _ => 0)), (mc_row J n (fun _ => 0)), (mc_up (mc_row P n (fun _ => 0)) a0 12 n), (mc_row S n (2, 64)), (n + 1)), (9, 1690)) Q) :
    mc_WP (19, 71, [.ref a0, .int x1, .int x2], [], (I, J, P, S, n), (8, 1626)) Q := by
  exact (mc_WP.run (mc_adjs _) 4 (And.intro (And.intro h.1 (And.intro (by decide) (And.intro (by decide) (And.intro (by decide) (by decide))))) (And.intro h.2.1 h.2.2)))
set_option maxRecDepth 20000 in
theorem bg_19_79 {a0 : Nat} {x1 : Int32} {x2 : Int32}
    (h : 10 ≤ n ∧ ((mc_row S n (2, 64)) a0 = (1, 11) ∧ ¬ n = 0) ∧ mc_WP (19, 87, [.ref a0, .int x1, .int x2], [], ((mc_row I n (fun _ => 0)), (mc_row J n (fun _ => 0)), (mc_up (mc_row P n (fun _ => 0)) a0 13 n), (mc_row S n (2, 64)), (n + 1)), (10, 1754)) Q) :
    mc_WP (19, 79, [.ref a0, .int x1, .int x2], [], (I, J, P, S, n), (9, 1690)) Q := by
  exact (mc_WP.run (mc_adjs _) 4 (And.intro (And.intro h.1 (And.intro (by decide) (And.intro (by decide) (And.intro (by decide) (by decide))))) (And.intro h.2.1 h.2.2)))
set_option maxRecDepth 20000 in
theorem bg_19_87 {a0 : Nat} {x1 : Int32} {x2 : Int32}
    (h : 10 ≤ n ∧ ((mc_row S n (2, 64)) a0 = (1, 11) ∧ ¬ n = 0) ∧ mc_WP (19, 95, [.ref a0, .int x1, .int x2], [], ((mc_row I n (fun _ => 0)), (mc_row J n (fun _ => 0)), (mc_up (mc_row P n (fun _ => 0)) a0 14 n), (mc_row S n (2, 64)), (n + 1)), (11, 1818)) Q) :
    mc_WP (19, 87, [.ref a0, .int x1, .int x2], [], (I, J, P, S, n), (10, 1754)) Q := by
  exact (mc_WP.run (mc_adjs _) 4 (And.intro (And.intro h.1 (And.intro (by decide) (And.intro (by decide) (And.intro (by decide) (by decide))))) (And.intro h.2.1 h.2.2)))
set_option maxRecDepth 20000 in
theorem bg_19_95 {a0 : Nat} {x1 : Int32} {x2 : Int32}
    (h : 10 ≤ n ∧ ((mc_row S n (2, 64)) a0 = (1, 11) ∧ ¬ n = 0) ∧ mc_WP (19, 103, [.ref a0, .int x1, .int x2], [], ((mc_row I n (fun _ => 0)), (mc_row J n (fun _ => 0)), (mc_up (mc_row P n (fun _ => 0)) a0 15 n), (mc_row S n (2, 64)), (n + 1)), (12, 1882)) Q) :
    mc_WP (19, 95, [.ref a0, .int x1, .int x2], [], (I, J, P, S, n), (11, 1818)) Q := by
  exact (mc_WP.run (mc_adjs _) 4 (And.intro (And.intro h.1 (And.intro (by decide) (And.intro (by decide) (And.intro (by decide) (by decide))))) (And.intro h.2.1 h.2.2)))
set_option maxRecDepth 20000 in
theorem bg_19_103 {a0 : Nat} {x1 : Int32} {x2 : Int32}
    (h : 10 ≤ n ∧ ((mc_row S n (2, 64)) a0 = (1, 11) ∧ ¬ n = 0) ∧ mc_WP (19, 111, [.ref a0, .int x1, .int x2], [], ((mc_row I n (fun _ => 0)), (mc_row J n (fun _ => 0)), (mc_up (mc_row P n (fun _ => 0)) a0 16 n), (mc_row S n (2, 64)), (n + 1)), (13, 1946)) Q) :
    mc_WP (19, 103, [.ref a0, .int x1, .int x2], [], (I, J, P, S, n), (12, 1882)) Q := by
  exact (mc_WP.run (mc_adjs _) 4 (And.intro (And.intro h.1 (And.intro (by decide) (And.intro (by decide) (And.intro (by decide) (by decide))))) (And.intro h.2.1 h.2.2)))
set_option maxRecDepth 20000 in
theorem bg_19_111 {a0 : Nat} {x1 : Int32} {x2 : Int32}
    (h : 10 ≤ n ∧ ((mc_row S n (2, 64)) a0 = (1, 11) ∧ ¬ n = 0) ∧ mc_WP (19, 119, [.ref a0, .int x1, .int x2], [], ((mc_row I n (fun _ => 0)), (mc_row J n (fun _ => 0)), (mc_up (mc_row P n (fun _ => 0)) a0 17 n), (mc_row S n (2, 64)), (n + 1)), (14, 2010)) Q) :
    mc_WP (19, 111, [.ref a0, .int x1, .int x2], [], (I, J, P, S, n), (13, 1946)) Q := by
  exact (mc_WP.run (mc_adjs _) 4 (And.intro (And.intro h.1 (And.intro (by decide) (And.intro (by decide) (And.intro (by decide) (by decide))))) (And.intro h.2.1 h.2.2)))
set_option maxRecDepth 20000 in
theorem bg_19_119 {a0 : Nat} {x1 : Int32} {x2 : Int32}
    (h : 10 ≤ n ∧ ((mc_row S n (2, 64)) a0 = (1, 11) ∧ ¬ n = 0) ∧ mc_WP (19, 127, [.ref a0, .int x1, .int x2], [], ((mc_row I n (fun _ => 0)), (mc_row J n (fun _ => 0)), (mc_up (mc_row P n (fun _ => 0)) a0 27 n), (mc_row S n (2, 64)), (n + 1)), (15, 2074)) Q) :
    mc_WP (19, 119, [.ref a0, .int x1, .int x2], [], (I, J, P, S, n), (14, 2010)) Q := by
  exact (mc_WP.run (mc_adjs _) 4 (And.intro (And.intro h.1 (And.intro (by decide) (And.intro (by decide) (And.intro (by decide) (by decide))))) (And.intro h.2.1 h.2.2)))
set_option maxRecDepth 20000 in
theorem bg_19_127 {a0 : Nat} {x1 : Int32} {x2 : Int32}
    (h : 10 ≤ n ∧ ((mc_row S n (2, 64)) a0 = (1, 11) ∧ ¬ n = 0) ∧ mc_WP (19, 135, [.ref a0, .int x1, .int x2], [], ((mc_row I n (fun _ => 0)), (mc_row J n (fun _ => 0)), (mc_up (mc_row P n (fun _ => 0)) a0 29 n), (mc_row S n (2, 64)), (n + 1)), (16, 2138)) Q) :
    mc_WP (19, 127, [.ref a0, .int x1, .int x2], [], (I, J, P, S, n), (15, 2074)) Q := by
  exact (mc_WP.run (mc_adjs _) 4 (And.intro (And.intro h.1 (And.intro (by decide) (And.intro (by decide) (And.intro (by decide) (by decide))))) (And.intro h.2.1 h.2.2)))
set_option maxRecDepth 20000 in
theorem bg_19_135 {a0 : Nat} {x1 : Int32} {x2 : Int32}
    (h : 10 ≤ n ∧ ((mc_row S n (2, 64)) a0 = (1, 11) ∧ ¬ n = 0) ∧ mc_WP (19, 143, [.ref a0, .int x1, .int x2], [], ((mc_row I n (fun _ => 0)), (mc_row J n (fun _ => 0)), (mc_up (mc_row P n (fun _ => 0)) a0 30 n), (mc_row S n (2, 64)), (n + 1)), (17, 2202)) Q) :
    mc_WP (19, 135, [.ref a0, .int x1, .int x2], [], (I, J, P, S, n), (16, 2138)) Q := by
  exact (mc_WP.run (mc_adjs _) 4 (And.intro (And.intro h.1 (And.intro (by decide) (And.intro (by decide) (And.intro (by decide) (by decide))))) (And.intro h.2.1 h.2.2)))
set_option maxRecDepth 20000 in
theorem bg_19_143 {a0 : Nat} {x1 : Int32} {x2 : Int32}
    (h : 10 ≤ n ∧ ((mc_row S n (2, 64)) a0 = (1, 11) ∧ ¬ n = 0) ∧ mc_WP (19, 151, [.ref a0, .int x1, .int x2], [], ((mc_row I n (fun _ => 0)), (mc_row J n (fun _ => 0)), (mc_up (mc_row P n (fun _ => 0)) a0 31 n), (mc_row S n (2, 64)), (n + 1)), (18, 2266)) Q) :
    mc_WP (19, 143, [.ref a0, .int x1, .int x2], [], (I, J, P, S, n), (17, 2202)) Q := by
  exact (mc_WP.run (mc_adjs _) 4 (And.intro (And.intro h.1 (And.intro (by decide) (And.intro (by decide) (And.intro (by decide) (by decide))))) (And.intro h.2.1 h.2.2)))
set_option maxRecDepth 20000 in
theorem bg_19_151 {a0 : Nat} {x1 : Int32} {x2 : Int32}
    (h : 10 ≤ n ∧ ((mc_row S n (2, 16)) a0 = (1, 11) ∧ ¬ n = 0) ∧ mc_WP (19, 159, [.ref a0, .int x1, .int x2], [], ((mc_row I n (fun _ => 0)), (mc_row J n (fun _ => 0)), (mc_up (mc_row P n (fun _ => 0)) a0 33 n), (mc_row S n (2, 16)), (n + 1)), (19, 2282)) Q) :
    mc_WP (19, 151, [.ref a0, .int x1, .int x2], [], (I, J, P, S, n), (18, 2266)) Q := by
  exact (mc_WP.run (mc_adjs _) 4 (And.intro (And.intro h.1 (And.intro (by decide) (And.intro (by decide) (And.intro (by decide) (by decide))))) (And.intro h.2.1 h.2.2)))
set_option maxRecDepth 20000 in
theorem bg_19_159 {a0 : Nat} {x1 : Int32} {x2 : Int32}
    (h : 10 ≤ n ∧ ((mc_row S n (2, 192)) a0 = (1, 11) ∧ ¬ n = 0) ∧ mc_WP (19, 168, [.ref a0, .int x1, .int x2], [], ((mc_row I n (fun _ => 0)), (mc_row J n (fun _ => 0)), (mc_up (mc_row P n (fun _ => 0)) a0 34 n), (mc_row S n (2, 192)), (n + 1)), (20, 2474)) Q) :
    mc_WP (19, 159, [.ref a0, .int x1, .int x2], [], (I, J, P, S, n), (19, 2282)) Q := by
  exact (mc_WP.run (mc_adjs _) 4 (And.intro (And.intro h.1 (And.intro (by decide) (And.intro (by decide) (And.intro (by decide) (by decide))))) (And.intro h.2.1 h.2.2)))
set_option maxRecDepth 20000 in
theorem bg_19_168 {a0 : Nat} {x1 : Int32} {x2 : Int32}
    (h : (S a0 = (1, 11) ∧ ¬ P a0 2 = 0) ∧ ((1 : Int32) ≤ x1 →
        ((x1 ≤ (8 : Int32) →
          (mc_WP (19, 194, [.ref a0, .int x1, .int x2], [.int x1, .int (2 : Int32), .ref (P a0 2)], (I, J, P, S, n), (20, 2474)) Q)) ∧
          (¬ (x1 ≤ (8 : Int32)) →
          (mc_WP (19, 194, [.ref a0, .int x1, .int x2], [.int (8 : Int32), .int (2 : Int32), .ref (P a0 2)], (I, J, P, S, n), (20, 2474)) Q)))) ∧
        (¬ ((1 : Int32) ≤ x1) →
        (mc_WP (19, 194, [.ref a0, .int x1, .int x2], [.int (1 : Int32), .int (2 : Int32), .ref (P a0 2)], (I, J, P, S, n), (20, 2474)) Q))) :
    mc_WP (19, 168, [.ref a0, .int x1, .int x2], [], (I, J, P, S, n), (20, 2474)) Q := by
  exact (mc_WP.run (mc_adjs _) 6 (And.intro h.1 (And.intro (fun c6 => (mc_WP.run (mc_adjs _) 3 (And.intro (fun c7 => (mc_WP.run (mc_adjs _) 1 ((h.2.1 c6).1 c7))) (fun c7 => (mc_WP.run (mc_adjs _) 2 ((h.2.1 c6).2 c7)))))) (fun c6 => (mc_WP.run (mc_adjs _) 2 (h.2.2 c6))))))
set_option maxRecDepth 20000 in
theorem bg_19_194 {a0 : Nat} {x1 : Int32} {x2 : Int32} {b0 : Nat} {y1 : Int32} {y2 : Int32}
    (h : ((S b0).1 = 2 ∧ vp_in y1 (S b0).2 ∧ 10 ≤ b0) ∧ mc_WP (19, 195, [.ref a0, .int x1, .int x2], [], ((mc_up I b0 y1.toNatClampNeg y2), J, P, S, n), (20, 2474)) Q) :
    mc_WP (19, 194, [.ref a0, .int x1, .int x2], [.int y2, .int y1, .ref b0], (I, J, P, S, n), (20, 2474)) Q := by
  exact (mc_WP.run (mc_adjs _) 1 (And.intro h.1 h.2))
set_option maxRecDepth 20000 in
theorem bg_19_195 {a0 : Nat} {x1 : Int32} {x2 : Int32}
    (h : (S a0 = (1, 11) ∧ ¬ P a0 2 = 0) ∧ ((1 : Int32) ≤ x2 →
        ((x2 ≤ (8 : Int32) →
          (mc_WP (19, 221, [.ref a0, .int x1, .int x2], [.int x2, .int (3 : Int32), .ref (P a0 2)], (I, J, P, S, n), (20, 2474)) Q)) ∧
          (¬ (x2 ≤ (8 : Int32)) →
          (mc_WP (19, 221, [.ref a0, .int x1, .int x2], [.int (8 : Int32), .int (3 : Int32), .ref (P a0 2)], (I, J, P, S, n), (20, 2474)) Q)))) ∧
        (¬ ((1 : Int32) ≤ x2) →
        (mc_WP (19, 221, [.ref a0, .int x1, .int x2], [.int (1 : Int32), .int (3 : Int32), .ref (P a0 2)], (I, J, P, S, n), (20, 2474)) Q))) :
    mc_WP (19, 195, [.ref a0, .int x1, .int x2], [], (I, J, P, S, n), (20, 2474)) Q := by
  exact (mc_WP.run (mc_adjs _) 6 (And.intro h.1 (And.intro (fun c6 => (mc_WP.run (mc_adjs _) 3 (And.intro (fun c7 => (mc_WP.run (mc_adjs _) 1 ((h.2.1 c6).1 c7))) (fun c7 => (mc_WP.run (mc_adjs _) 2 ((h.2.1 c6).2 c7)))))) (fun c6 => (mc_WP.run (mc_adjs _) 2 (h.2.2 c6))))))
set_option maxRecDepth 20000 in
theorem bg_19_221 {a0 : Nat} {x1 : Int32} {x2 : Int32} {b0 : Nat} {y1 : Int32} {y2 : Int32}
    (h : ((S b0).1 = 2 ∧ vp_in y1 (S b0).2 ∧ 10 ≤ b0) ∧ mc_WP (19, 222, [.ref a0, .int x1, .int x2], [], ((mc_up I b0 y1.toNatClampNeg y2), J, P, S, n), (20, 2474)) Q) :
    mc_WP (19, 221, [.ref a0, .int x1, .int x2], [.int y2, .int y1, .ref b0], (I, J, P, S, n), (20, 2474)) Q := by
  exact (mc_WP.run (mc_adjs _) 1 (And.intro h.1 h.2))
set_option maxRecDepth 20000 in
theorem bg_19_222 {a0 : Nat} {x1 : Int32} {x2 : Int32}
    (h : (S a0 = (1, 11) ∧ ¬ P a0 2 = 0) ∧ ((S (P a0 2)).1 = 2 ∧ vp_in (4 : Int32) (S (P a0 2)).2 ∧ 10 ≤ (P a0 2)) ∧ S a0 = (1, 11) ∧ ∃ R : mc_Q, mc_WP (mc_en 59 [.ref a0] ((mc_up I (P a0 2) 4 (1 : Int32)), J, P, S, n)) R ∧ (∀ v t, R (.inl v) t → mc_WP (19, 233, [.ref a0, .int x1, .int x2], v.toList ++ [], t, (20, 2474)) Q) ∧ (∀ k t, R (.inr k) t → Q (.inr k) t)) :
    mc_WP (19, 222, [.ref a0, .int x1, .int x2], [], (I, J, P, S, n), (20, 2474)) Q := by
  exact (mc_WP.run (mc_adjs _) 7 (And.intro h.1 (And.intro h.2.1 (And.intro h.2.2.1 (And.intro (by decide) (And.intro (by decide) h.2.2.2))))))
set_option maxRecDepth 20000 in
theorem bg_19_233 {a0 : Nat} {x1 : Int32} {x2 : Int32}
    (h : Q (.inl none) (I, J, P, S, n)) :
    mc_WP (19, 233, [.ref a0, .int x1, .int x2], [], (I, J, P, S, n), (20, 2474)) Q := by
  exact (mc_WP.run (mc_adjs _) 1 h)
-- 204 cell([II)I made
set_option maxRecDepth 20000 in
theorem bg_204_0 {a0 : Nat} {x1 : Int32}
    (h : (2 ≤ (S a0).1 ∧ (S a0).1 ≤ 4) ∧ ((Int32.ofNat (S a0).2) ≤ x1 → (Q (.inl (some (.int (0 : Int32)))) (I, J, P, S, n))) ∧
        (¬ ((Int32.ofNat (S a0).2) ≤ x1) →
        (((S a0).1 = 2 ∧ vp_in x1 (S a0).2) ∧ Q (.inl (some (.int (I a0 x1.toNatClampNeg)))) (I, J, P, S, n)))) :
    mc_WP (mc_en 204 [.ref a0, .int x1] (I, J, P, S, n)) Q := by
  exact (mc_WP.run (mc_adjs _) 4 (And.intro h.1 (And.intro (fun c5 => (mc_WP.run (mc_adjs _) 2 (h.2.1 c5))) (fun c5 => (mc_WP.run (mc_adjs _) 4 (And.intro (h.2.2 c5).1 (mc_WP.run (mc_adjs _) 1 (h.2.2 c5).2)))))))
-- 42 law([I)Z made
set_option maxRecDepth 20000 in
theorem bg_42_0 {a0 : Nat}
    (h : 10 ≤ n ∧ ∃ R : mc_Q, mc_WP (mc_en 204 [.ref a0, .int (0 : Int32)] ((mc_row I n (fun _ => 0)), (mc_row J n (fun _ => 0)), (mc_row P n (fun _ => 0)), (mc_row S n (1, 0)), (n + 1))) R ∧ (∀ v t, R (.inl v) t → mc_WP (42, 9, [.ref a0, .null, .null, .null, .null, .null, .null], v.toList ++ [.ref n, .ref n], t, (1, 8)) Q) ∧ (∀ k t, R (.inr k) t → Q (.inr k) t)) :
    mc_WP (mc_en 42 [.ref a0] (I, J, P, S, n)) Q := by
  exact (mc_WP.run (mc_adjs _) 5 (And.intro (And.intro h.1 (And.intro (by decide) (by decide))) (And.intro (by decide) (And.intro (by decide) h.2))))
set_option maxRecDepth 20000 in
theorem bg_42_9 {a0 : Nat} {b0 : Nat} {b1 : Nat} {y2 : Int32}
    (h : ∃ R : mc_Q, mc_WP (mc_en 204 [.ref a0, .int (1 : Int32)] (I, J, P, S, n)) R ∧ (∀ v t, R (.inl v) t → mc_WP (42, 14, [.ref a0, .null, .null, .null, .null, .null, .null], v.toList ++ [.int y2, .ref b1, .ref b0], t, (1, 8)) Q) ∧ (∀ k t, R (.inr k) t → Q (.inr k) t)) :
    mc_WP (42, 9, [.ref a0, .null, .null, .null, .null, .null, .null], [.int y2, .ref b1, .ref b0], (I, J, P, S, n), (1, 8)) Q := by
  exact (mc_WP.run (mc_adjs _) 3 (And.intro (by decide) (And.intro (by decide) h)))
set_option maxRecDepth 20000 in
theorem bg_42_14 {a0 : Nat} {b0 : Nat} {b1 : Nat} {y2 : Int32} {y3 : Int32}
    (h : ∃ R : mc_Q, mc_WP (mc_en 0 [.ref b1, .int y2, .int y3] (I, J, P, S, n)) R ∧ (∀ v t, R (.inl v) t → mc_WP (42, 17, [.ref a0, .null, .null, .null, .null, .null, .null], v.toList ++ [.ref b0], t, (74, 4453)) Q) ∧ (∀ k t, R (.inr k) t → Q (.inr k) t)) :
    mc_WP (42, 14, [.ref a0, .null, .null, .null, .null, .null, .null], [.int y3, .int y2, .ref b1, .ref b0], (I, J, P, S, n), (1, 8)) Q := by
  exact (mc_WP.run (mc_adjs _) 1 (And.intro (by decide) (And.intro (by decide) h)))
set_option maxRecDepth 20000 in
theorem bg_42_17 {a0 : Nat} {b0 : Nat}
    (h : 10 ≤ n ∧ ∃ R : mc_Q, mc_WP (mc_en 204 [.ref a0, .int (0 : Int32)] ((mc_row I n (fun _ => 0)), (mc_row J n (fun _ => 0)), (mc_row P n (fun _ => 0)), (mc_row S n (1, 11)), (n + 1))) R ∧ (∀ v t, R (.inl v) t → mc_WP (42, 27, [.ref a0, .ref b0, .null, .null, .null, .null, .null], v.toList ++ [.ref n, .ref n], t, (75, 4488)) Q) ∧ (∀ k t, R (.inr k) t → Q (.inr k) t)) :
    mc_WP (42, 17, [.ref a0, .null, .null, .null, .null, .null, .null], [.ref b0], (I, J, P, S, n), (74, 4453)) Q := by
  exact (mc_WP.run (mc_adjs _) 6 (And.intro (And.intro h.1 (And.intro (by decide) (by decide))) (And.intro (by decide) (And.intro (by decide) h.2))))
set_option maxRecDepth 20000 in
theorem bg_42_27 {a0 : Nat} {a1 : Nat} {b0 : Nat} {b1 : Nat} {y2 : Int32}
    (h : ∃ R : mc_Q, mc_WP (mc_en 204 [.ref a0, .int (1 : Int32)] (I, J, P, S, n)) R ∧ (∀ v t, R (.inl v) t → mc_WP (42, 32, [.ref a0, .ref a1, .null, .null, .null, .null, .null], v.toList ++ [.int y2, .ref b1, .ref b0], t, (75, 4488)) Q) ∧ (∀ k t, R (.inr k) t → Q (.inr k) t)) :
    mc_WP (42, 27, [.ref a0, .ref a1, .null, .null, .null, .null, .null], [.int y2, .ref b1, .ref b0], (I, J, P, S, n), (75, 4488)) Q := by
  exact (mc_WP.run (mc_adjs _) 3 (And.intro (by decide) (And.intro (by decide) h)))
set_option maxRecDepth 20000 in
theorem bg_42_32 {a0 : Nat} {a1 : Nat} {b0 : Nat} {b1 : Nat} {y2 : Int32} {y3 : Int32}
    (h : ∃ R : mc_Q, mc_WP (mc_en 19 [.ref b1, .int y2, .int y3] (I, J, P, S, n)) R ∧ (∀ v t, R (.inl v) t → mc_WP (42, 35, [.ref a0, .ref a1, .null, .null, .null, .null, .null], v.toList ++ [.ref b0], t, (95, 6962)) Q) ∧ (∀ k t, R (.inr k) t → Q (.inr k) t)) :
    mc_WP (42, 32, [.ref a0, .ref a1, .null, .null, .null, .null, .null], [.int y3, .int y2, .ref b1, .ref b0], (I, J, P, S, n), (75, 4488)) Q := by
  exact (mc_WP.run (mc_adjs _) 1 (And.intro (by decide) (And.intro (by decide) h)))
set_option maxRecDepth 20000 in
theorem bg_42_35 {a0 : Nat} {a1 : Nat} {b0 : Nat}
    (h : 10 ≤ n ∧ mc_WP (42, 43, [.ref a0, .ref a1, .ref b0, .ref n, .int (2 : Int32), .null, .null], [], ((mc_row I n (fun _ => 0)), (mc_row J n (fun _ => 0)), (mc_row P n (fun _ => 0)), (mc_row S n (4, 1)), (n + 1)), (96, 6963)) Q) :
    mc_WP (42, 35, [.ref a0, .ref a1, .null, .null, .null, .null, .null], [.ref b0], (I, J, P, S, n), (95, 6962)) Q := by
  exact (mc_WP.run (mc_adjs _) 6 (And.intro (And.intro h.1 (And.intro (by decide) (And.intro (by decide) (And.intro (by decide) (by decide))))) h.2))
-- 189 begin(III)V made
set_option maxRecDepth 20000 in
theorem bg_189_0 {a0 : Nat} {x1 : Int32} {x2 : Int32} {x3 : Int32}
    (h : S a0 = (1, 9) ∧ S a0 = (1, 9) ∧ S a0 = (1, 9) ∧ (S a0 = (1, 9) ∧ ¬ P a0 0 = 0) ∧ S (P a0 0) = (1, 6) ∧ ∃ R : mc_Q, mc_WP (mc_en 156 [.ref (P a0 0), .int x3] ((mc_up (mc_up (mc_up I a0 2 x1) a0 3 x2) a0 4 (0 : Int32)), J, P, S, n)) R ∧ (∀ v t, R (.inl v) t → mc_WP (189, 23, [.ref a0, .int x1, .int x2, .int x3], v.toList ++ [], t, (0, 0)) Q) ∧ (∀ k t, R (.inr k) t → Q (.inr k) t)) :
    mc_WP (mc_en 189 [.ref a0, .int x1, .int x2, .int x3] (I, J, P, S, n)) Q := by
  exact (mc_WP.run (mc_adjs _) 13 (And.intro h.1 (And.intro h.2.1 (And.intro h.2.2.1 (And.intro h.2.2.2.1 (And.intro h.2.2.2.2.1 (And.intro (by decide) (And.intro (by decide) h.2.2.2.2.2))))))))
set_option maxRecDepth 20000 in
theorem bg_189_23 {a0 : Nat} {x1 : Int32} {x2 : Int32} {x3 : Int32}
    (h : Q (.inl none) (I, J, P, S, n)) :
    mc_WP (189, 23, [.ref a0, .int x1, .int x2, .int x3], [], (I, J, P, S, n), (0, 0)) Q := by
  exact (mc_WP.run (mc_adjs _) 1 h)
-- 156 resize(I)V made
set_option maxRecDepth 20000 in
theorem bg_156_0 {a0 : Nat} {x1 : Int32}
    (h : S a0 = (1, 6) ∧ mc_WP (156, 9, [.ref a0, .int x1, .int (if x1 < (I a0 1) then x1 else (I a0 1))], [], (I, J, P, S, n), (0, 0)) Q) :
    mc_WP (mc_en 156 [.ref a0, .int x1] (I, J, P, S, n)) Q := by
  exact (mc_WP.run (mc_adjs _) 5 (And.intro h.1 h.2))
set_option maxRecDepth 20000 in
theorem bg_156_9 {a0 : Nat} {x1 : Int32} {x2 : Int32}
    (h : ((16 : Int32) ≤ x2 →
        (S a0 = (1, 6) ∧ Q (.inl none) ((mc_up I a0 1 x1), J, P, S, n))) ∧
        (¬ ((16 : Int32) ≤ x2) →
        ((S a0 = (1, 6) ∧ ¬ P a0 0 = 0) ∧ ((S (P a0 0)).1 = 2 ∧ vp_in x2 (S (P a0 0)).2 ∧ 10 ≤ (P a0 0)) ∧ mc_WP (156, 9, [.ref a0, .int x1, .int (x2 + (1 : Int32))], [], ((mc_up I (P a0 0) x2.toNatClampNeg (0 : Int32)), J, P, S, n), (0, 0)) Q))) :
    mc_WP (156, 9, [.ref a0, .int x1, .int x2], [], (I, J, P, S, n), (0, 0)) Q := by
  exact (mc_WP.run (mc_adjs _) 3 (And.intro (fun c4 => (mc_WP.run (mc_adjs _) 4 (And.intro (h.1 c4).1 (h.1 c4).2))) (fun c4 => (mc_WP.run (mc_adjs _) 7 (And.intro (h.2 c4).1 (And.intro (h.2 c4).2.1 (h.2 c4).2.2))))))
-- 127 empty()V made
set_option maxRecDepth 20000 in
theorem bg_127_0 {a0 : Nat}
    (h : (S a0 = (1, 2) ∧ ¬ P a0 0 = 0) ∧ ∃ R : mc_Q, mc_WP (mc_en 205 [.ref (P a0 0), .int (-1 : Int32)] (I, J, P, S, n)) R ∧ (∀ v t, R (.inl v) t → mc_WP (127, 8, [.ref a0], v.toList ++ [], t, (0, 0)) Q) ∧ (∀ k t, R (.inr k) t → Q (.inr k) t)) :
    mc_WP (mc_en 127 [.ref a0] (I, J, P, S, n)) Q := by
  exact (mc_WP.run (mc_adjs _) 4 (And.intro h.1 (And.intro (by decide) (And.intro (by decide) h.2))))
set_option maxRecDepth 20000 in
theorem bg_127_8 {a0 : Nat}
    (h : Q (.inl none) (I, J, P, S, n)) :
    mc_WP (127, 8, [.ref a0], [], (I, J, P, S, n), (0, 0)) Q := by
  exact (mc_WP.run (mc_adjs _) 1 h)
-- 205 fill([II)V made
set_option maxRecDepth 20000 in
theorem bg_205_0 {a0 : Nat} {x1 : Int32}
    (h : (2 ≤ (S a0).1 ∧ (S a0).1 ≤ 4) ∧ mc_WP (205, 5, [.ref a0, .int x1, .int (0 : Int32), .int (Int32.ofNat (S a0).2)], [], (I, J, P, S, n), (0, 0)) Q) :
    mc_WP (mc_en 205 [.ref a0, .int x1] (I, J, P, S, n)) Q := by
  exact (mc_WP.run (mc_adjs _) 5 (And.intro h.1 h.2))
set_option maxRecDepth 20000 in
theorem bg_205_5 {a0 : Nat} {x1 : Int32} {x2 : Int32} {x3 : Int32}
    (h : (x3 ≤ x2 → (Q (.inl none) (I, J, P, S, n))) ∧
        (¬ (x3 ≤ x2) →
        (((S a0).1 = 2 ∧ vp_in x2 (S a0).2 ∧ 10 ≤ a0) ∧ mc_WP (205, 5, [.ref a0, .int x1, .int (x2 + (1 : Int32)), .int x3], [], ((mc_up I a0 x2.toNatClampNeg x1), J, P, S, n), (0, 0)) Q))) :
    mc_WP (205, 5, [.ref a0, .int x1, .int x2, .int x3], [], (I, J, P, S, n), (0, 0)) Q := by
  exact (mc_WP.run (mc_adjs _) 3 (And.intro (fun c4 => (mc_WP.run (mc_adjs _) 1 (h.1 c4))) (fun c4 => (mc_WP.run (mc_adjs _) 6 (And.intro (h.2 c4).1 (h.2 c4).2)))))
-- 59 clearCanvas()V made
set_option maxRecDepth 20000 in
theorem bg_59_0 {a0 : Nat}
    (h : mc_WP (59, 2, [.ref a0, .int (0 : Int32)], [], (I, J, P, S, n), (0, 0)) Q) :
    mc_WP (mc_en 59 [.ref a0] (I, J, P, S, n)) Q := by
  exact (mc_WP.run (mc_adjs _) 2 h)
set_option maxRecDepth 20000 in
theorem bg_59_2 {a0 : Nat} {x1 : Int32}
    (h : ((64 : Int32) ≤ x1 → (Q (.inl none) (I, J, P, S, n))) ∧
        (¬ ((64 : Int32) ≤ x1) →
        ((S a0 = (1, 11) ∧ ¬ P a0 12 = 0) ∧ ((S (P a0 12)).1 = 2 ∧ vp_in x1 (S (P a0 12)).2 ∧ 10 ≤ (P a0 12)) ∧ mc_WP (59, 2, [.ref a0, .int (x1 + (1 : Int32))], [], ((mc_up I (P a0 12) x1.toNatClampNeg (-1 : Int32)), J, P, S, n), (0, 0)) Q))) :
    mc_WP (59, 2, [.ref a0, .int x1], [], (I, J, P, S, n), (0, 0)) Q := by
  exact (mc_WP.run (mc_adjs _) 3 (And.intro (fun c4 => (mc_WP.run (mc_adjs _) 1 (h.1 c4))) (fun c4 => (mc_WP.run (mc_adjs _) 7 (And.intro (h.2 c4).1 (And.intro (h.2 c4).2.1 (h.2 c4).2.2))))))
end
