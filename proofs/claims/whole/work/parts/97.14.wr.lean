/-! write and read: the order of the rows, both sides -/
section
variable {I M M' : rl_M} {J : Nat → Nat → Int64} {r N n : Nat} {Q : mc_Q} {v : Int32} {a0 h w k y t st : Nat} {A : List Nat}
def cp_l (h st : Nat) : Nat → Nat → List Nat
  | 0, _ => []
  | t + 1, y => if h ≤ y then [] else y :: cp_l h st t (y + st)
/-- the rows in their order -/
def rw_l (v : Int32) (h : Nat) : List Nat := if v = 0 then cp_l h 1 8 0 else cp_l h 8 8 0 ++ cp_l h 8 8 4 ++ cp_l h 4 8 2 ++ cp_l h 2 8 1
def pr_w (w y : Nat) : List Nat := (List.range w).map fun x => 8 * y + x
/-- the places in their order -/
def pw_l (w : Nat) (ys : List Nat) : List Nat := ys.flatMap (pr_w w)
theorem pr_len : (pr_w w y).length = w := by unfold pr_w; rw [List.length_map, List.length_range]
theorem pw_len : ∀ ys, (pw_l w ys).length = ys.length * w
  | [] => by unfold pw_l; simp
  | y :: ys => by
    have := pw_len ys
    unfold pw_l at *
    rw [List.flatMap_cons, List.length_append, pr_len, this, List.length_cons, Nat.succ_mul]
    omega
theorem pw_app (xs ys : List Nat) : pw_l w (xs ++ ys) = pw_l w xs ++ pw_l w ys := by unfold pw_l; rw [List.flatMap_append]
theorem rw_fin : ∀ h : Fin 9, (rw_l 0 h.1).length = h.1 ∧ (∀ y ∈ rw_l 0 h.1, y < h.1) ∧ (rw_l 1 h.1).length = h.1 ∧ (∀ y ∈ rw_l 1 h.1, y < h.1) := by decide +kernel
theorem rwo_ok (hh : h ≤ 8) (hv : v = 0 ∨ v = 1) : (rw_l v h).length = h ∧ ∀ y ∈ rw_l v h, y < h := by
  obtain ⟨h1, h2, h3, h4⟩ := rw_fin ⟨h, by omega⟩
  rcases hv with rfl | rfl
  · exact ⟨h1, h2⟩
  · exact ⟨h3, h4⟩
theorem pw_mem {q : Nat} {ys : List Nat} (hq : q ∈ pw_l w ys) : ∃ y x, y ∈ ys ∧ x < w ∧ q = 8 * y + x := by
  unfold pw_l at hq
  obtain ⟨y, hy, hq⟩ := List.mem_flatMap.mp hq
  unfold pr_w at hq
  obtain ⟨x, hx, e⟩ := List.mem_map.mp hq
  exact ⟨y, x, hy, List.mem_range.mp hx, e.symm⟩
/-- the class's list of places -/
def ol_is (M : rl_M) (A : List Nat) : Prop := ∀ k q, A[k]? = some q → M 62 k = Int32.ofNat q
def ol_K (M M' : rl_M) : Prop := ∀ b, ¬ b = 62 → M' b = M b
theorem ol_app {q : Nat} (h : ol_is M A) : ol_is (mc_up M 62 A.length (Int32.ofNat q)) (A ++ [q]) := by
  intro k a hk
  by_cases z : k < A.length
  · rw [List.getElem?_append_left z] at hk
    rw [up_nk (by omega)]
    exact h k a hk
  · have hlt := (List.getElem?_eq_some_iff.mp hk).1
    rw [List.length_append, List.length_singleton] at hlt
    have e : k = A.length := by omega
    subst e
    rw [List.getElem?_append_right (Nat.le_refl _), Nat.sub_self] at hk
    cases hk
    exact up_at
theorem cc_row1 {x3 x4 x5 : Int32} (hF : is_F a0) (hw : M a0 4 = Int32.ofNat w) (hw8 : w ≤ 8) (hy : y < 8) (hA : ol_is M A) (hl : A.length + w ≤ 64)
    (hk : ∀ M' x7, ol_K M M' → ol_is M' (A ++ pr_w w y) → mc_WP (143, 54, [.ref a0, .ref 62, .int (Int32.ofNat (A ++ pr_w w y).length), .int x3, .int x4, .int x5, .int (Int32.ofNat y + x5), .int x7], [], (M', J, rf_w r, sh_w N, n), (0, 0)) Q) :
    mc_WP (143, 66, [.ref a0, .ref 62, .int (Int32.ofNat A.length), .int x3, .int x4, .int x5, .int (Int32.ofNat y), .int (Int32.ofNat 0)], [], (M, J, rf_w r, sh_w N, n), (0, 0)) Q := by
  have ha : a0 < 54 := by simp only [is_F, List.mem_cons, List.not_mem_nil, or_false] at hF; omega
  have hsh : sh_w N 62 = (2, 64) := rfl
  refine lp_go (C := fun k (i : rl_M) => (143, 66, [.ref a0, .ref 62, .int (Int32.ofNat (A.length + k)), .int x3, .int x4, .int x5, .int (Int32.ofNat y), .int (Int32.ofNat k)], [], (i, J, rf_w r, sh_w N, n), (0, 0))) (P := fun k i => ol_K M i ∧ ol_is i (A ++ pr_w k y)) w M ⟨fun _ _ => rfl, by unfold pr_w; rw [List.range_zero, List.map_nil, List.append_nil]; exact hA⟩ ?_ ?_
  · intro k hk' i ⟨i1, i2⟩ ih
    try dsimp only at ih ⊢
    refine bk_143_66 hF hsh (by decide) ?_
    rw [i1 a0 (by omega), hw, on_1, on_1, on_n (by omega), on_8]
    refine ⟨fun q => absurd ((on_le (by omega) (by omega)).mp q) (by omega), fun _ => ⟨on_vp (by omega) (by omega), ih _ ⟨fun b q => by rw [up_ne q]; exact i1 b q, ?_⟩⟩⟩
    have := ol_app (q := 8 * y + k) i2
    rw [List.length_append, pr_len, List.append_assoc] at this
    unfold pr_w at this ⊢
    rw [List.range_succ, List.map_append]
    exact this
  · intro i ⟨i1, i2⟩
    try dsimp only
    refine bk_143_66 hF hsh (by decide) ?_
    rw [i1 a0 (by omega), hw]
    refine ⟨fun _ => ?_, fun q => absurd ((on_le (by omega) (by omega)).mpr (Nat.le_refl _)) q⟩
    have := hk i (Int32.ofNat w) i1 i2
    rw [List.length_append, pr_len] at this
    exact this
theorem cc_pass {x3 x4 : Int32} (hF : is_F a0) (hw : M a0 4 = Int32.ofNat w) (hh : M a0 5 = Int32.ofNat h) (hw8 : w ≤ 8) (hh8 : h ≤ 8) (hst : 1 ≤ st ∧ st ≤ 8) : ∀ t y (A : List Nat) (M1 : rl_M) (x7 : Value), h ≤ y + t → y < 100 → ol_K M M1 → ol_is M1 A → A.length + (cp_l h st t y).length * w ≤ 64 →
    (∀ M' x6 x7, ol_K M M' → ol_is M' (A ++ pw_l w (cp_l h st t y)) → mc_WP (143, 21, [.ref a0, .ref 62, .int (Int32.ofNat (A ++ pw_l w (cp_l h st t y)).length), .int x3, .int (x4 + 1), .int (Int32.ofNat st), .int x6, x7], [], (M', J, rf_w r, sh_w N, n), (0, 0)) Q) →
    mc_WP (143, 54, [.ref a0, .ref 62, .int (Int32.ofNat A.length), .int x3, .int x4, .int (Int32.ofNat st), .int (Int32.ofNat y), x7], [], (M1, J, rf_w r, sh_w N, n), (0, 0)) Q := by
  have ha : a0 < 54 := by simp only [is_F, List.mem_cons, List.not_mem_nil, or_false] at hF; omega
  have hsh : sh_w N 62 = (2, 64) := rfl
  intro t
  have stop : ∀ t y (A : List Nat) (M1 : rl_M) (x7 : Value), h ≤ y → y < 100 → ol_K M M1 → ol_is M1 A → cp_l h st t y = [] → 
    (∀ M' x6 x7, ol_K M M' → ol_is M' (A ++ pw_l w (cp_l h st t y)) → mc_WP (143, 21, [.ref a0, .ref 62, .int (Int32.ofNat (A ++ pw_l w (cp_l h st t y)).length), .int x3, .int (x4 + 1), .int (Int32.ofNat st), .int x6, x7], [], (M', J, rf_w r, sh_w N, n), (0, 0)) Q) →
    mc_WP (143, 54, [.ref a0, .ref 62, .int (Int32.ofNat A.length), .int x3, .int x4, .int (Int32.ofNat st), .int (Int32.ofNat y), x7], [], (M1, J, rf_w r, sh_w N, n), (0, 0)) Q := by
    intro t y A M1 x7 hy h100 k1 a1 e hk
    rw [e, show pw_l w [] = [] from rfl, List.append_nil] at hk
    refine bk_143_54 hF hsh ?_
    rw [k1 a0 (by omega), hh]
    exact ⟨fun _ => hk M1 _ _ k1 a1, fun q => absurd ((on_le (by omega) (by omega)).mpr hy) q⟩
  induction t with
  | zero => intro y A M1 x7 hy h100 k1 a1 hl hk; exact stop 0 y A M1 x7 (by omega) h100 k1 a1 rfl hk
  | succ t ih =>
    intro y A M1 x7 hy h100 k1 a1 hl hk
    by_cases q : h ≤ y
    · exact stop (t + 1) y A M1 x7 q h100 k1 a1 (by unfold cp_l; rw [if_pos q]) hk
    · have e : cp_l h st (t + 1) y = y :: cp_l h st t (y + st) := by
        show (if h ≤ y then [] else _) = _
        rw [if_neg q]
      rw [e] at hk hl
      rw [List.length_cons, Nat.succ_mul] at hl
      refine bk_143_54 hF hsh ?_
      rw [k1 a0 (by omega), hh]
      refine ⟨fun z => absurd ((on_le (by omega) (by omega)).mp z) (by omega), fun _ => ?_⟩
      refine cc_row1 hF (by rw [k1 a0 (by omega)]; exact hw) hw8 (by omega) a1 (by omega) fun M2 x7 k2 a2 => ?_
      rw [← Int32.ofNat_add]
      refine ih (y + st) (A ++ pr_w w y) M2 _ (by omega) (by omega) (fun b z => (k2 b z).trans (k1 b z)) a2 (by rw [List.length_append, pr_len]; omega) ?_
      intro M' x6 x7 k' a'
      have e2 : A ++ pw_l w (y :: cp_l h st t (y + st)) = A ++ pr_w w y ++ pw_l w (cp_l h st t (y + st)) := by
        unfold pw_l
        rw [List.flatMap_cons, List.append_assoc]
      rw [e2] at hk
      exact hk M' x6 x7 k' a'
/-- the class's order -/
theorem cc_order (hF : is_F a0) (hw : M a0 4 = Int32.ofNat w) (hh : M a0 5 = Int32.ofNat h) (hw8 : w ≤ 8) (hh8 : h ≤ 8) (h9 : M a0 9 = 0 ∨ M a0 9 = 1) (hK : ∀ a, 2 ≤ a → a ≤ 4 → M a = st_w a)
    (hk : ∀ M', ol_K M M' → ol_is M' (pw_l w (rw_l (M a0 9) h)) → Q (.inl (some (.int (Int32.ofNat (pw_l w (rw_l (M a0 9) h)).length)))) (M', J, rf_w r, sh_w N, n)) :
    mc_WP (mc_en 143 [.ref a0, .ref 62] (M, J, rf_w r, sh_w N, n)) Q := by
  have ha : a0 < 54 := by simp only [is_F, List.mem_cons, List.not_mem_nil, or_false] at hF; omega
  have hsh : sh_w N 62 = (2, 64) := rfl
  have hlen := rwo_ok hh8 h9
  have hmul : h * w ≤ 64 := Nat.le_trans (Nat.mul_le_mul hh8 hw8) (by decide)
  have l0 : ol_is M [] := fun k q hq => absurd hq (by simp)
  refine bk_143_0 hF hsh ⟨fun q => ?_, fun q => ?_⟩
  · unfold rw_l at hk hlen
    rw [if_pos q] at hk hlen
    refine bk_143_21 hF hsh ⟨fun z => absurd z (by decide), fun _ => ⟨fun _ => ⟨by unfold vp_in; decide, ?_⟩, fun z => absurd q z⟩⟩
    rw [hK 2 (by decide) (by decide), show st_w 2 (0 : Int32).toNatClampNeg = Int32.ofNat 0 from rfl]
    refine cc_pass (A := []) (st := 1) hF hw hh hw8 hh8 (by decide) 8 0 M _ (by omega) (by omega) (fun _ _ => rfl) l0 (by rw [hlen.1]; show 0 + _ ≤ _; omega) ?_
    intro M' x6 x7 k' a'
    rw [List.nil_append] at a'
    refine bk_143_21 hF hsh ⟨fun _ => hk M' k' a', fun z => absurd (by decide) z⟩
  · unfold rw_l at hk hlen
    rw [if_neg q] at hk hlen
    rw [pw_app, pw_app, pw_app] at hk
    have hl4 := hlen.1
    rw [List.length_append, List.length_append, List.length_append] at hl4
    have hll : (cp_l h 8 8 0).length * w + (cp_l h 8 8 4).length * w + (cp_l h 4 8 2).length * w + (cp_l h 2 8 1).length * w ≤ 64 := by
      rw [← Nat.add_mul, ← Nat.add_mul, ← Nat.add_mul, hl4]; exact hmul
    refine bk_143_21 hF hsh ⟨fun z => absurd z (by decide), fun _ => ⟨fun z => absurd z q, fun _ => ⟨by unfold vp_in; decide, by unfold vp_in; decide, ?_⟩⟩⟩
    rw [hK 2 (by decide) (by decide), hK 3 (by decide) (by decide), show st_w 2 (0 : Int32).toNatClampNeg = Int32.ofNat 0 from rfl, show st_w 3 (0 : Int32).toNatClampNeg = Int32.ofNat 8 from rfl]
    refine cc_pass (A := []) hF hw hh hw8 hh8 (by decide) 8 0 M _ (by omega) (by omega) (fun _ _ => rfl) l0 (by show 0 + _ ≤ _; omega) ?_
    intro M1 x6 x7 k1 a1
    rw [List.nil_append] at a1 ⊢
    refine bk_143_21 hF hsh ⟨fun z => absurd z (by decide), fun _ => ⟨fun z => absurd z (by rw [k1 a0 (by omega)]; exact q), fun _ => ⟨by unfold vp_in; decide, by unfold vp_in; decide, ?_⟩⟩⟩
    rw [k1 2 (by omega), k1 3 (by omega), hK 2 (by decide) (by decide), hK 3 (by decide) (by decide), show st_w 2 ((0 : Int32) + 1).toNatClampNeg = Int32.ofNat 4 from rfl, show st_w 3 ((0 : Int32) + 1).toNatClampNeg = Int32.ofNat 8 from rfl]
    refine cc_pass hF hw hh hw8 hh8 (by decide) 8 4 _ M1 _ (by omega) (by omega) k1 a1 (by rw [pw_len]; omega) ?_
    intro M2 x6 x7 k2 a2
    refine bk_143_21 hF hsh ⟨fun z => absurd z (by decide), fun _ => ⟨fun z => absurd z (by rw [k2 a0 (by omega)]; exact q), fun _ => ⟨by unfold vp_in; decide, by unfold vp_in; decide, ?_⟩⟩⟩
    rw [k2 2 (by omega), k2 3 (by omega), hK 2 (by decide) (by decide), hK 3 (by decide) (by decide), show st_w 2 ((0 : Int32) + 1 + 1).toNatClampNeg = Int32.ofNat 2 from rfl, show st_w 3 ((0 : Int32) + 1 + 1).toNatClampNeg = Int32.ofNat 4 from rfl]
    refine cc_pass hF hw hh hw8 hh8 (by decide) 8 2 _ M2 _ (by omega) (by omega) k2 a2 (by rw [List.length_append, pw_len, pw_len]; omega) ?_
    intro M3 x6 x7 k3 a3
    refine bk_143_21 hF hsh ⟨fun z => absurd z (by decide), fun _ => ⟨fun z => absurd z (by rw [k3 a0 (by omega)]; exact q), fun _ => ⟨by unfold vp_in; decide, by unfold vp_in; decide, ?_⟩⟩⟩
    rw [k3 2 (by omega), k3 3 (by omega), hK 2 (by decide) (by decide), hK 3 (by decide) (by decide), show st_w 2 ((0 : Int32) + 1 + 1 + 1).toNatClampNeg = Int32.ofNat 1 from rfl, show st_w 3 ((0 : Int32) + 1 + 1 + 1).toNatClampNeg = Int32.ofNat 2 from rfl]
    refine cc_pass hF hw hh hw8 hh8 (by decide) 8 1 _ M3 _ (by omega) (by omega) k3 a3 (by rw [List.length_append, List.length_append, pw_len, pw_len, pw_len]; omega) ?_
    intro M4 x6 x7 k4 a4
    exact bk_143_21 hF hsh ⟨fun _ => hk M4 k4 a4, fun z => absurd (by decide) z⟩
/-- the reference's row -/
def ro_in (p y : Nat) : Bool := if p = 0 then y % 8 == 0 else if p = 1 then y % 8 == 4 else if p = 2 then y % 4 == 2 else y % 2 == 1
def ro_s (k p : Nat) (s : Nat × Nat) (y : Nat) : Nat × Nat := if ro_in p y then (s.1 + 1, if s.1 = k then y else s.2) else s
def ro_p (k p h : Nat) (s : Nat × Nat) : Nat × Nat := (List.range h).foldl (ro_s k p) s
def ro_f (k h : Nat) : Nat := (ro_p k 3 h (ro_p k 2 h (ro_p k 1 h (ro_p k 0 h (0, k))))).2
theorem ro_fin : ∀ h : Fin 9, ∀ k : Fin 8, k.1 < h.1 → (rw_l 1 h.1)[k.1]? = some (ro_f k.1 h.1) ∧ (rw_l 0 h.1)[k.1]? = some k.1 := by decide +kernel
theorem ro_i : ∀ y : Fin 8, ((Int32.ofNat y.1 - Int32.ofNat y.1 / (8 : Int32) * (8 : Int32) = 0) ↔ ro_in 0 y.1) ∧ ((Int32.ofNat y.1 - Int32.ofNat y.1 / (8 : Int32) * (8 : Int32) = 4) ↔ ro_in 1 y.1) ∧ ((Int32.ofNat y.1 - Int32.ofNat y.1 / (4 : Int32) * (4 : Int32) = 2) ↔ ro_in 2 y.1) ∧ ((Int32.ofNat y.1 - Int32.ofNat y.1 / (2 : Int32) * (2 : Int32) = 1) ↔ ro_in 3 y.1) := by decide +kernel
theorem ro_s1 {p : Nat} (s : Nat × Nat) : (ro_s k p s y).1 ≤ s.1 + 1 := by
  unfold ro_s
  split
  · exact Nat.le_refl _
  · exact Nat.le_succ _
theorem ro_b {p : Nat} (s : Nat × Nat) : ∀ y, (ro_p k p y s).1 ≤ s.1 + y
  | 0 => Nat.le_refl _
  | y + 1 => by
    have ih : (ro_p k p y s).1 ≤ s.1 + y := ro_b s y
    unfold ro_p at *
    rw [List.range_succ, List.foldl_append]
    have := ro_s1 (k := k) (y := y) (p := p) ((List.range y).foldl (ro_s k p) s)
    show (ro_s k p _ y).1 ≤ _
    omega
theorem cm_rowp {p : Nat} (hh8 : h ≤ 8) (hk8 : k < 8) (hp : p < 4) {s : Nat × Nat} (hs : s.1 < 1000) {x7 : Value}
    (hq : ∀ x6 x7, mc_WP (76, 8, [.int (Int32.ofNat k), .int (Int32.ofNat h), .int 1, .int (Int32.ofNat (ro_p k p h s).1), .int (Int32.ofNat (ro_p k p h s).2), .int (Int32.ofNat (p + 1)), x6, x7], [], (M, J, rf_w r, sh_w N, n), (0, 0)) Q) :
    mc_WP (76, 21, [.int (Int32.ofNat k), .int (Int32.ofNat h), .int 1, .int (Int32.ofNat s.1), .int (Int32.ofNat s.2), .int (Int32.ofNat p), .int (Int32.ofNat 0), x7], [], (M, J, rf_w r, sh_w N, n), (0, 0)) Q := by
  have bd := ro_b (k := k) (p := p) s
  refine lp_go (C := fun y (x7 : Value) => (76, 21, [.int (Int32.ofNat k), .int (Int32.ofNat h), .int 1, .int (Int32.ofNat (ro_p k p y s).1), .int (Int32.ofNat (ro_p k p y s).2), .int (Int32.ofNat p), .int (Int32.ofNat y), x7], [], (M, J, rf_w r, sh_w N, n), (0, 0))) (P := fun _ _ => True) h x7 trivial ?_ ?_
  · intro y hy x7 _ ih
    try dsimp only at ih ⊢
    have b1 := bd y
    have e : ro_p k p (y + 1) s = ro_s k p (ro_p k p y s) y := by
      unfold ro_p
      rw [List.range_succ, List.foldl_append]
      rfl
    rw [e] at ih
    generalize hS : ro_p k p y s = S at *
    obtain ⟨a, b⟩ := S
    dsimp only at b1 ih ⊢
    have fin : ∀ y0 : Int32, ((y0 = 0 ↔ ¬ ro_in p y)) → mc_WP (76, 106, [.int (Int32.ofNat k), .int (Int32.ofNat h), .int 1, .int (Int32.ofNat a), .int (Int32.ofNat b), .int (Int32.ofNat p), .int (Int32.ofNat y), x7], [.int y0], (M, J, rf_w r, sh_w N, n), (0, 0)) Q := fun y0 h0 => by
      unfold ro_s at ih
      dsimp only at ih
      refine bk_76_106 ?_
      rw [on_eq (by omega) (by omega)]
      refine ⟨fun z => ?_, fun z => ?_⟩
      · rw [if_neg (h0.mp z)] at ih
        refine bk_76_123 (bk_76_125 ⟨fun _ => bk_76_139 ?_, fun z2 => absurd z z2⟩)
        rw [on_1]
        exact ih _ trivial
      · have hin : ro_in p y := Classical.byContradiction fun w => z (h0.mpr w)
        rw [if_pos hin] at ih
        refine ⟨fun z2 => ?_, fun z2 => ?_⟩
        · rw [if_neg z2] at ih
          refine bk_76_123 (bk_76_125 ⟨fun z3 => absurd z3 z, fun _ => bk_76_139 ?_⟩)
          rw [on_1, on_1]
          exact ih _ trivial
        · rw [if_pos (Classical.not_not.mp z2)] at ih
          refine bk_76_125 ⟨fun z3 => absurd z3 z, fun _ => bk_76_139 ?_⟩
          rw [on_1, on_1]
          exact ih _ trivial
    obtain ⟨i0, i1, i2, i3⟩ := ro_i ⟨y, by omega⟩
    dsimp only at i0 i1 i2 i3
    have yes : ro_in p y → ((1 : Int32) = 0 ↔ ¬ ro_in p y) := fun z => ⟨fun w => absurd w (by decide), fun w => absurd z w⟩
    have no : ¬ ro_in p y → ((0 : Int32) = 0 ↔ ¬ ro_in p y) := fun z => ⟨fun _ => z, fun _ => rfl⟩
    refine bk_76_21 ⟨fun z => absurd ((on_le (by omega) (by omega)).mp z) (by omega), fun _ => ?_⟩
    rw [i0, i1, i2, i3, show (0 : Int32) = Int32.ofNat 0 from rfl, show (1 : Int32) = Int32.ofNat 1 from rfl, show (2 : Int32) = Int32.ofNat 2 from rfl, on_eq (by omega) (by omega), on_eq (by omega) (by omega), on_eq (by omega) (by omega)]
    rcases (show p = 0 ∨ p = 1 ∨ p = 2 ∨ p = 3 by omega) with rfl | rfl | rfl | rfl
    · exact ⟨fun z => absurd rfl z, fun _ => ⟨by decide, fun z => fin _ (no z), fun z => fin _ (yes (Classical.not_not.mp z))⟩⟩
    · exact ⟨fun _ => ⟨fun z => absurd rfl z, fun _ => ⟨by decide, fun z => fin _ (no z), fun z => fin _ (yes (Classical.not_not.mp z))⟩⟩, fun z => absurd (by decide) z⟩
    · exact ⟨fun _ => ⟨fun _ => ⟨fun z => absurd rfl z, fun _ => ⟨by decide, fun z => fin _ (no z), fun z => fin _ (yes (Classical.not_not.mp z))⟩⟩, fun z => absurd (by decide) z⟩, fun z => absurd (by decide) z⟩
    · exact ⟨fun _ => ⟨fun _ => ⟨fun _ => ⟨by decide, fun z => fin _ (no z), fun z => fin _ (yes (Classical.not_not.mp z))⟩, fun z => absurd (by decide) z⟩, fun z => absurd (by decide) z⟩, fun z => absurd (by decide) z⟩
  · intro x7 _
    try dsimp only
    refine bk_76_21 ⟨fun _ => ?_, fun z => absurd ((on_le (by omega) (by omega)).mpr (Nat.le_refl _)) z⟩
    rw [on_1]
    exact hq _ _
theorem cm_row (hh8 : h ≤ 8) (hkh : k < h) (hv : v = 0 ∨ v = 1) (hq : ∀ y, (rw_l v h)[k]? = some y → Q (.inl (some (.int (Int32.ofNat y)))) (M, J, rf_w r, sh_w N, n)) :
    mc_WP (mc_en 76 [.int (Int32.ofNat k), .int (Int32.ofNat h), .int v] (M, J, rf_w r, sh_w N, n)) Q := by
  obtain ⟨f1, f0⟩ := ro_fin ⟨h, by omega⟩ ⟨k, by omega⟩ hkh
  have bd : ∀ p s, (ro_p k p h s).1 ≤ s.1 + h := fun p s => ro_b s h
  refine bk_76_0 ?_
  rcases hv with rfl | rfl
  · exact bk_76_8 ⟨fun z => absurd z (by decide), fun _ => ⟨fun _ => bk_76_152 (hq k f0), fun z => absurd rfl z⟩⟩
  · refine bk_76_8 ⟨fun z => absurd z (by decide), fun _ => ⟨fun z => absurd z (by decide), fun _ => ?_⟩⟩
    have b0 := bd 0 (0, k)
    refine cm_rowp (p := 0) (s := (0, k)) hh8 (by omega) (by decide) (by show 0 < 1000; decide) fun x6 x7 => ?_
    refine bk_76_8 ⟨fun z => absurd z (by decide), fun _ => ⟨fun z => absurd z (by decide), fun _ => ?_⟩⟩
    have b1 := bd 1 (ro_p k 0 h (0, k))
    refine cm_rowp (p := 1) hh8 (by omega) (by decide) (by omega) fun x6 x7 => ?_
    refine bk_76_8 ⟨fun z => absurd z (by decide), fun _ => ⟨fun z => absurd z (by decide), fun _ => ?_⟩⟩
    have b2 := bd 2 (ro_p k 1 h (ro_p k 0 h (0, k)))
    refine cm_rowp (p := 2) hh8 (by omega) (by decide) (by omega) fun x6 x7 => ?_
    refine bk_76_8 ⟨fun z => absurd z (by decide), fun _ => ⟨fun z => absurd z (by decide), fun _ => ?_⟩⟩
    refine cm_rowp (p := 3) hh8 (by omega) (by decide) (by omega) fun x6 x7 => ?_
    exact bk_76_8 ⟨fun _ => bk_76_152 (hq _ f1), fun z => absurd (by decide) z⟩
end
