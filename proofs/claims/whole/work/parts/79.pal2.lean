section
variable {I : rl_M} {J : Nat → Nat → Int64} {r N n : Nat} {Q : mc_Q} {v x1 x2 x3 y4 x4 : Int32} {x5 x6 x7 x8 : Value} {u : mc_U} {a b lo j k z f g o s : Nat}
/-- the reference's colours of palette g, k of them done -/
def pm_c (I : rl_M) (g s k : Nat) : rl_M := fun b j => if b = 86 ∧ 16 * g ≤ j ∧ j < 16 * g + k ∧ ¬ j < 16 * g + s then 0 else I b j
theorem pm_0 : pm_c I g s 0 = I := by
  funext b j
  unfold pm_c
  rw [if_neg (by omega)]
theorem pm_s (h : v = if k < s then I 86 (16 * g + k) else 0) : mc_up (pm_c I g s k) 86 (16 * g + k) v = pm_c I g s (k + 1) := by
  funext b j
  unfold mc_up pm_c
  by_cases h1 : b = 86 ∧ j = 16 * g + k
  · rw [if_pos h1, h]
    by_cases h2 : k < s
    · rw [if_pos h2, if_neg (by omega), h1.1, h1.2]
    · rw [if_neg h2, if_pos (by omega)]
  · rw [if_neg h1]
    by_cases h2 : b = 86 ∧ 16 * g ≤ j ∧ j < 16 * g + k ∧ ¬ j < 16 * g + s
    · rw [if_pos h2, if_pos (by omega)]
    · rw [if_neg h2, if_neg (by omega)]
theorem pm_at : pm_c I g s k 86 (16 * g + k) = I 86 (16 * g + k) := by
  unfold pm_c
  rw [if_neg (by omega)]
theorem pm_ne (h : ¬ b = 86) : pm_c I g s k b = I b := by
  funext j
  unfold pm_c
  rw [if_neg (fun q => h q.1)]
theorem cnt_lt {b : Int32} (hb : 0 ≤ b.toInt ∧ b.toInt ≤ 4) (hk : k < 16) : ((¬ ((1 : Int32) <<< (b &&& 31)) ≤ Int32.ofNat k) ∧ ¬ b ≤ 0) ↔ (k : Int) < (rl_cnt b).toInt := by
  have c := cnt_b hb
  rw [Int32.le_iff_toInt_le, Int32.le_iff_toInt_le, on_t (by omega), i3_0]
  by_cases z : b = 0
  · rw [c.2.2.1 z, z, i3_0]
    constructor
    · intro q; exact absurd (by decide) q.2
    · intro q; omega
  · have := c.2.2.2 z
    rw [← this.1]
    have hz : ¬ b.toInt = 0 := fun q => z (Int32.toInt_inj.mp q)
    constructor
    · intro q; omega
    · intro q; omega
theorem pm_lp {had : Int32} (hx : -1 ≤ x1.toInt ∧ x1.toInt < 4) (hh : 0 ≤ had.toInt ∧ had.toInt ≤ 4) (h2 : 0 ≤ x2.toInt ∧ x2.toInt ≤ 4) (hs1 : (s : Int) ≤ (rl_cnt x2).toInt ∧ (s : Int) ≤ (rl_cnt had).toInt ∧ ((s : Int) = (rl_cnt x2).toInt ∨ (s : Int) = (rl_cnt had).toInt))
    (hq : Q (.inl (some (.int (rl_cnt x2)))) (mc_up (pm_c I (ow_g x1) s 16) 85 (9 * ow_g x1 + 4) x2, J, rf_w r, sh_w N, n)) : ∀ (m k : Nat) (x6 x7 x8 : Value), k + m = 16 →
    mc_WP (63, 89, [.ref 84, .int x1, .int x2, .int x3, .int had, .int (Int32.ofNat k), x6, x7, x8], [], (pm_c I (ow_g x1) s k, J, rf_w r, sh_w N, n), (0, 0)) Q
  | 0, k, x6, x7, x8, h => by
    have e := ix_9g (x1 := x1) (k := 4) hx (by decide)
    rw [show ((4 : Int32).toInt).toNat = 4 from rfl] at e
    have hk : k = 16 := by omega
    subst hk
    refine bk_63_89 ⟨fun _ => ⟨e.2, ?_⟩, fun q => absurd (by decide) q⟩
    rw [e.1]
    have c := cnt_b h2
    refine ⟨fun a => bk_63_217 ?_, fun a => bk_63_217 ?_⟩
    · rw [← (c.2.2.2 a).1]; exact hq
    · rw [← c.2.2.1 (Classical.not_not.mp a)]; exact hq
  | m + 1, k, x6, x7, x8, h => by
    have e16 := ix_16g (x1 := x1) (k := Int32.ofNat k) hx (by rw [on_t (by omega)]; omega)
    rw [on_t (by omega), show ((k : Int)).toNat = k by omega] at e16
    have l1 := cnt_lt (k := k) hh (by omega)
    have l2 := cnt_lt (k := k) h2 (by omega)
    have st4 : ∀ (x6 x7 y : Int32), y = (if k < s then I 86 (16 * ow_g x1 + k) else 0) → ∀ x8 : Int32, mc_WP (63, 185, [.ref 84, .int x1, .int x2, .int x3, .int had, .int (Int32.ofNat k), .int x6, .int x7, .int x8], [.int y, .int ((16 : Int32) * (x1 + 1) + Int32.ofNat k), .ref 86], (pm_c I (ow_g x1) s k, J, rf_w r, sh_w N, n), (0, 0)) Q := by
      intro x6 x7 y hy x8
      refine bk_63_185 (b0z := 80) rfl (by decide) ⟨e16.2, ?_⟩
      rw [e16.1, pm_s hy, on_1]
      exact pm_lp hx hh h2 hs1 hq m (k + 1) _ _ _ (by omega)
    have st3 : ∀ (o t : Int32) (x7 x8 : Value), (o = 0 ∨ o = 1) → (o = 1 ↔ (k : Int) < (rl_cnt had).toInt) → (t = 0 ∨ t = 1) → (t = 1 ↔ (k : Int) < (rl_cnt x2).toInt) → mc_WP (63, 134, [.ref 84, .int x1, .int x2, .int x3, .int had, .int (Int32.ofNat k), .int o, x7, x8], [.int t], (pm_c I (ow_g x1) s k, J, rf_w r, sh_w N, n), (0, 0)) Q := by
      intro o t x7 x8 ho hoi ht hti
      have fin : ∀ y : Int32, (o = 1 → y = I 86 (16 * ow_g x1 + k)) → (¬ o = 1 → y = 0) → mc_WP (63, 159, [.ref 84, .int x1, .int x2, .int x3, .int had, .int (Int32.ofNat k), .int o, .int t, x8], [.int y], (pm_c I (ow_g x1) s k, J, rf_w r, sh_w N, n), (0, 0)) Q := by
        intro y y1 y0
        refine bk_63_159 ⟨fun a => st4 _ _ _ ?_ _, fun a => st4 _ _ _ ?_ _⟩
        · have : ¬ (k : Int) < (rl_cnt x2).toInt := fun q => by rw [hti.mpr q] at a; exact absurd a (by decide)
          rw [if_neg (by omega)]
        · have t1 : t = 1 := by
            rcases ht with q | q
            · exact absurd q a
            · exact q
          have k2 := hti.mp t1
          by_cases q : o = 1
          · have := hoi.mp q
            rw [y1 q, if_pos (by omega)]
          · have : ¬ (k : Int) < (rl_cnt had).toInt := fun w => q (hoi.mpr w)
            rw [y0 q, if_neg (by omega)]
      refine bk_63_134 ⟨fun a => fin 0 (fun q => absurd (q.symm.trans a) (by decide)) (fun _ => rfl), fun a => ?_⟩
      rw [e16.1, pm_at]
      exact ⟨e16.2, fin _ (fun _ => rfl) (fun q => by rcases ho with w | w; exact absurd w a; exact absurd w q)⟩
    have st2 : ∀ (o : Int32) (x6 x7 x8 : Value), (o = 0 ∨ o = 1) → (o = 1 ↔ (k : Int) < (rl_cnt had).toInt) → mc_WP (63, 115, [.ref 84, .int x1, .int x2, .int x3, .int had, .int (Int32.ofNat k), x6, x7, x8], [.int o], (pm_c I (ow_g x1) s k, J, rf_w r, sh_w N, n), (0, 0)) Q := by
      intro o x6 x7 x8 ho hoi
      refine bk_63_115 ⟨fun a => bk_63_133 (st3 o 0 _ _ ho hoi (Or.inl rfl) ⟨fun q => absurd q (by decide), fun q => absurd a (l2.mpr q).1⟩), fun a => ⟨fun b => bk_63_133 (st3 o 0 _ _ ho hoi (Or.inl rfl) ⟨fun q => absurd q (by decide), fun q => absurd b (l2.mpr q).2⟩), fun b => st3 o 1 _ _ ho hoi (Or.inr rfl) ⟨fun _ => l2.mp ⟨a, b⟩, fun _ => rfl⟩⟩⟩
    refine bk_63_89 ⟨fun q => absurd q (by rw [Int32.le_iff_toInt_le, on_t (by omega), i3_16]; omega), fun _ => ⟨fun a => bk_63_114 (st2 0 _ _ _ (Or.inl rfl) ⟨fun q => absurd q (by decide), fun q => absurd a (l1.mpr q).1⟩), fun a => ⟨fun b => bk_63_114 (st2 0 _ _ _ (Or.inl rfl) ⟨fun q => absurd q (by decide), fun q => absurd b (l1.mpr q).2⟩), fun b => st2 1 _ _ _ (Or.inr rfl) ⟨fun _ => l1.mp ⟨a, b⟩, fun _ => rfl⟩⟩⟩⟩
theorem cm_palette {c : rl_M} (hR : rb_R c (I 84 1) (I 85) (I 86) (I 87)) (hs1 : (s : Int) ≤ (rl_cnt x2).toInt ∧ (s : Int) ≤ (rl_cnt (I 85 (9 * ow_g x1 + 4))).toInt ∧ ((s : Int) = (rl_cnt x2).toInt ∨ (s : Int) = (rl_cnt (I 85 (9 * ow_g x1 + 4))).toInt) ∨ ¬ (ow_in (I 84 1) x1 ∧ pa_in (I 85) (I 87) (I 84 1) x1 x2)) (h1 : ow_in (I 84 1) x1 → pa_in (I 85) (I 87) (I 84 1) x1 x2 → Q (.inl (some (.int (rl_cnt x2)))) (mc_up (pm_c (mc_up I 84 0 0) (ow_g x1) s 16) 85 (9 * ow_g x1 + 4) x2, J, rf_w r, sh_w N, n)) (h2 : ¬ ow_in (I 84 1) x1 → Q (.inl (some (.int 0))) (mc_up I 84 0 1, J, rf_w r, sh_w N, n)) (h3 : ow_in (I 84 1) x1 → ¬ pa_in (I 85) (I 87) (I 84 1) x1 x2 → Q (.inl (some (.int 0))) (mc_up I 84 0 2, J, rf_w r, sh_w N, n)) :
    mc_WP (mc_en 63 [.ref 84, .int x1, .int x2] (I, J, rf_w r, sh_w N, n)) Q := by
  have hb := hR.1
  have st59 : ow_in (I 84 1) x1 → pa_in (I 85) (I 87) (I 84 1) x1 x2 → mc_WP (63, 59, [.ref 84, .int x1, .int x2, .int 1, .null, .null, .null, .null, .null], [.int 0, .ref 84], (I, J, rf_w r, sh_w N, n), (0, 0)) Q := by
    intro ho hp
    have hh : -1 ≤ x1.toInt ∧ x1.toInt < 4 := by unfold ow_in fr_in at ho; omega
    have e := ix_9g (x1 := x1) (k := 4) hh (by decide)
    rw [show ((4 : Int32).toInt).toNat = 4 from rfl] at e
    have hpal : 0 ≤ (I 85 (9 * ow_g x1 + 4)).toInt ∧ (I 85 (9 * ow_g x1 + 4)).toInt ≤ 4 := by
      rcases ow_pal hR ho with q | q
      · rw [q.2]; exact hR.2.2.2.2.2.2.2.2.1.1
      · rw [q.2.1]; exact q.2.2.1
    refine bk_63_59 ⟨fun _ => ⟨e.2, ?_⟩, fun q => absurd (by decide) q⟩
    rw [e.1]
    have := pm_lp (I := mc_up I 84 0 0) (x3 := 1) (J := J) (r := r) (N := N) (n := n) (Q := Q) (s := s) hh hpal hp.1.2 (by
      rcases hs1 with q | q
      · exact q
      · exact absurd ⟨ho, hp⟩ q) (h1 ho hp) 16 0 .null .null .null (by omega)
    rw [pm_0] at this
    exact this
  have bad2 : ow_in (I 84 1) x1 → ¬ pa_in (I 85) (I 87) (I 84 1) x1 x2 → mc_WP (63, 54, [.ref 84, .int x1, .int x2, .int 1, .null, .null, .null, .null, .null], [.ref 84], (I, J, rf_w r, sh_w N, n), (0, 0)) Q := fun ho hp =>
    bk_63_54 (bk_63_59 ⟨fun q => absurd q (by decide), fun _ => h3 ho hp⟩)
  have st38 : ∀ y : Int32, ow_in (I 84 1) x1 → ((x1.toInt = -1 → y.toInt = 1) ∧ (¬ x1.toInt = -1 → y.toInt = 0)) → mc_WP (63, 38, [.ref 84, .int x1, .int x2, .int 1, .null, .null, .null, .null, .null], [.int y, .int x2, .ref 84], (I, J, rf_w r, sh_w N, n), (0, 0)) Q := by
    intro y ho hy
    have hiff : (y.toInt ≤ x2.toInt ∧ x2.toInt ≤ (4 : Int32).toInt) ↔ ((x1.toInt = -1 → 1 ≤ x2.toInt) ∧ 0 ≤ x2.toInt ∧ x2.toInt ≤ 4) := by
      rw [i3_4]
      by_cases q : x1.toInt = -1
      · have := hy.1 q
        constructor
        · intro w; exact ⟨fun _ => by omega, by omega, by omega⟩
        · intro w; have := w.1 q; omega
      · have := hy.2 q
        constructor
        · intro w; exact ⟨fun w' => absurd w' q, by omega, by omega⟩
        · intro w; omega
    refine bk_63_38 (mc_inl ?_)
    refine cm_outside (fun a => ?_) (fun a => bk_63_42 ⟨fun _ => bad2 ho (fun w => a (hiff.mpr w.1)), fun q => absurd (show ¬ (1 : Int32) = 0 by decide) q⟩)
    have hb2 := hiff.mp a
    refine bk_63_42 ⟨fun q => absurd rfl q, fun _ => mc_inl ?_⟩
    refine cm_suits hR hb2.2 (fun d => bk_63_51 ⟨fun _ => st59 ho ⟨hb2, d⟩, fun q => absurd (show ¬ (1 : Int32) = 0 by decide) q⟩) (fun d => bk_63_51 ⟨fun q => absurd rfl q, fun _ => bad2 ho (fun w => d w.2)⟩)
  have st18 : ow_in (I 84 1) x1 → mc_WP (63, 18, [.ref 84, .int x1, .int x2, .null, .null, .null, .null, .null, .null], [.int 1], (I, J, rf_w r, sh_w N, n), (0, 0)) Q := by
    intro ho
    refine bk_63_18 ⟨fun _ => ⟨fun a => st38 0 ho ⟨fun q => ?_, fun _ => rfl⟩, fun a => st38 1 ho ⟨fun _ => rfl, fun q => ?_⟩⟩, fun q => absurd (show ¬ (1 : Int32) = 0 by decide) q⟩
    · rw [Int32.le_iff_toInt_le, i3_0] at a; omega
    · rw [Int32.le_iff_toInt_le, i3_0] at a
      unfold ow_in fr_in at ho
      omega
  refine bk_63_0 ⟨fun a => bk_63_13 (st18 (Or.inl (i3_ne.mp a))), fun a => mc_inl ?_⟩
  rw [i3_ne] at a
  refine cm_isFrame hR (fun d => bk_63_10 ⟨fun q => absurd q (by decide), fun _ => bk_63_13 (st18 (Or.inr d))⟩) (fun d => bk_63_10 ⟨fun _ => ?_, fun q => absurd rfl q⟩)
  refine bk_63_18 ⟨fun q => absurd rfl q, fun _ => bk_63_59 ⟨fun q => absurd q (by decide), fun _ => h2 (fun w => ?_)⟩⟩
  rcases w with w | w
  · exact a w
  · exact d w
end
