/-! reduce: what is wanted at a place, and what is handed on: the class -/
section
variable {I M M' : rl_M} {J : Nat → Nat → Int64} {r N n : Nat} {Q : mc_Q} {mn : Nat → Int32} {c v w0 w1 w2 mode : Int32} {nb k b x y W H a1 f : Nat} {E : rl_A}
def cl_v (v : Int32) : Int32 := if 0 ≤ v then (if v ≤ 255 then v else 255) else 0
theorem cl_cc (v : Int32) : (if (0 : Int32) < (if v < (255 : Int32) then v else (255 : Int32)) then (if v < (255 : Int32) then v else (255 : Int32)) else (0 : Int32)) = cl_v v := by
  unfold cl_v
  rw [← Int32.toInt_inj]
  simp only [Int32.lt_iff_toInt_lt, Int32.le_iff_toInt_le, i3_0, i3_255]
  by_cases h1 : v.toInt < 255
  · simp only [if_pos h1]
    by_cases h2 : 0 < v.toInt
    · rw [if_pos h2, if_pos (by omega), if_pos (by omega)]
    · rw [if_neg h2]
      by_cases h3 : 0 ≤ v.toInt
      · rw [if_pos h3, if_pos (by omega), i3_0]; omega
      · rw [if_neg h3]
  · simp only [if_neg h1, i3_255]
    rw [if_pos (by omega), if_pos (by omega)]
    by_cases h2 : v.toInt ≤ 255
    · rw [if_pos h2, i3_255]; omega
    · rw [if_neg h2]
theorem cl_b (v : Int32) : wt_b (cl_v v) := by
  unfold wt_b cl_v
  simp only [Int32.le_iff_toInt_le, i3_0, i3_255]
  split
  · split
    · omega
    · rw [i3_255]; omega
  · rw [i3_0]; omega
def mo_v (mode : Int32) (E : rl_A) (x y p : Nat) : Int32 := if mode = 1 then st_w 4 (2 * (y % 2) + x % 2) else E (24 * y + 3 * x + p) / 16
def wi_v (mode : Int32) (E : rl_A) (c : Int32) (x y p : Nat) : Int32 := cl_v (pt_v c (Int32.ofNat p) + mo_v mode E x y p)
theorem and_1 (h : k < 8) : Int32.ofNat k &&& 1 = Int32.ofNat (k % 2) := by
  rcases (show k = 0 ∨ k = 1 ∨ k = 2 ∨ k = 3 ∨ k = 4 ∨ k = 5 ∨ k = 6 ∨ k = 7 by omega) with rfl | rfl | rfl | rfl | rfl | rfl | rfl | rfl <;> rfl
theorem on_3 {k p : Nat} : Int32.ofNat k * (3 : Int32) + Int32.ofNat p = Int32.ofNat (3 * k + p) := by
  rw [Int32.ofNat_add, Int32.ofNat_mul, Int32.mul_comm]; rfl
theorem cc_wish (hx : x < 8) (hy : y < 8) (hc : M 75 (8 * y + x) = c) (hm : M 76 10 = mode) (hK : M 4 = st_w 4) (hE : ∀ k, k < 192 → M 82 k = E k)
    (hk : ∀ M', (∀ b, ¬ b = 83 → M' b = M b) → (∀ p, p < 3 → M' 83 p = wi_v mode E c x y p) → Q (.inl none) (M', J, rf_w r, sh_w N, n)) :
    mc_WP (mc_en 184 [.ref 76, .int (Int32.ofNat x), .int (Int32.ofNat y)] (M, J, rf_w r, sh_w N, n)) Q := by
  refine bk_184_0 ?_
  rw [on_8]
  refine lp_go (C := fun p (i : rl_M × Value) => (184, 9, [.ref 76, .int (Int32.ofNat x), .int (Int32.ofNat y), .int (Int32.ofNat (8 * y + x)), .int (Int32.ofNat p), i.2], [], (i.1, J, rf_w r, sh_w N, n), (0, 0))) (P := fun p i => (∀ b, ¬ b = 83 → i.1 b = M b) ∧ ∀ q, q < p → i.1 83 q = wi_v mode E c x y q) 3 (M, .null) ⟨fun _ _ => rfl, fun q hq => absurd hq (by omega)⟩ ?_ ?_
  · intro p hp ⟨M1, z⟩ ⟨h1, h2⟩ next
    dsimp only at h1 h2 next ⊢
    have v3 : vp_in (Int32.ofNat p) 3 := on_vp (by omega) hp
    refine bk_184_9 ⟨fun q => absurd ((on_le (k := 3) (by omega) (by omega)).mp q) (by omega), fun _ => ?_⟩
    rw [h1 75 (by decide), h1 76 (by decide), h1 82 (by decide), h1 4 (by decide), hm, on_3, on_n (k := 8 * y + x) (by omega), on_n (k := 3 * (8 * y + x) + p) (by omega), on_n (k := p) (by omega), hc, on_1 (k := p), and_1 hx, and_1 hy, cl_cc, cl_cc]
    have ei : Int32.ofNat (y % 2) * 2 + Int32.ofNat (x % 2) = Int32.ofNat (2 * (y % 2) + x % 2) := by rw [Int32.ofNat_add, Int32.ofNat_mul, Int32.mul_comm]; rfl
    rw [ei, on_n (k := 2 * (y % 2) + x % 2) (by omega), hE _ (by omega), hK, show 3 * (8 * y + x) + p = 24 * y + 3 * x + p by omega]
    have fin : ∀ (w : Int32) (z : Value), w = wi_v mode E c x y p → mc_WP (184, 9, [.ref 76, .int (Int32.ofNat x), .int (Int32.ofNat y), .int (Int32.ofNat (8 * y + x)), .int (Int32.ofNat (p + 1)), z], [], (mc_up M1 83 p w, J, rf_w r, sh_w N, n), (0, 0)) Q := fun w z hw => next (_, z) ⟨fun b hb => (up_ne hb).trans (h1 b hb), fun q hq => by
      show mc_up M1 83 p w 83 q = _
      by_cases e : q = p
      · rw [e, up_at, hw]
      · rw [up_nk e]; exact h2 q (by omega)⟩
    refine ⟨on_vp (by omega) (by omega), fun q => ⟨on_vp (by omega) (by omega), by decide, v3, fin _ _ ?_⟩, fun q => ⟨on_vp (by omega) (by omega), v3, fin _ _ ?_⟩⟩
    · unfold wi_v mo_v
      rw [if_neg q]
      rfl
    · unfold wi_v mo_v
      rw [if_pos (Classical.not_not.mp q)]
      rfl
  · intro ⟨M1, z⟩ ⟨h1, h2⟩
    exact bk_184_9 ⟨fun _ => hk M1 h1 h2, fun q => absurd (show (3 : Int32) ≤ Int32.ofNat 3 by decide) q⟩
/-- some of the error to one place -/
def ae_v (E : rl_A) (X Y : Int) (t : Int32) (D : Nat → Int32) (W H : Nat) : rl_A := fun k => if (0 ≤ X ∧ X < W ∧ 0 ≤ Y ∧ Y < H) ∧ X = ((k / 3 % 8 : Nat) : Int) ∧ Y = ((k / 24 : Nat) : Int) then E k + t * D (k % 3) else E k
def er_v (E : rl_A) (x y : Nat) (a : Int) (D : Nat → Int32) (W H : Nat) : rl_A := ae_v (ae_v (ae_v (ae_v E (x + a) y 7 D W H) (x - a) (y + 1) 3 D W H) x (y + 1) 5 D W H) (x + a) (y + 1) 1 D W H
theorem cc_addE {x2 x3 t c : Int32} (hF : is_F a1) (hW : M a1 4 = Int32.ofNat W) (hH : M a1 5 = Int32.ofNat H) (h8 : W ≤ 8 ∧ H ≤ 8) (hE : ∀ k, k < 192 → M 82 k = E k)
    (hk : ∀ M', (∀ b, ¬ b = 82 → M' b = M b) → (∀ k, k < 192 → M' 82 k = ae_v E x2.toInt x3.toInt t (fun p => M 83 p - pt_v c (Int32.ofNat p)) W H k) → Q (.inl none) (M', J, rf_w r, sh_w N, n)) :
    mc_WP (mc_en 188 [.ref 76, .ref a1, .int x2, .int x3, .int t, .int c] (M, J, rf_w r, sh_w N, n)) Q := by
  have out : ¬ (0 ≤ x2.toInt ∧ x2.toInt < W ∧ 0 ≤ x3.toInt ∧ x3.toInt < H) → Q (.inl none) (M, J, rf_w r, sh_w N, n) := fun h => hk M (fun _ _ => rfl) fun k hk' => by
    unfold ae_v
    rw [if_neg (fun z => h z.1)]
    exact hE k hk'
  refine bk_188_0 hF ?_
  rw [hW, hH]
  refine ⟨fun q => out ?_, fun q1 => ⟨fun q => out ?_, fun q2 => ⟨fun q => out ?_, fun q3 => ⟨fun q => out ?_, fun q4 => ?_⟩⟩⟩⟩
  · rw [Int32.lt_iff_toInt_lt, i3_0] at q; omega
  · rw [Int32.le_iff_toInt_le, on_t (by omega)] at q; omega
  · rw [Int32.lt_iff_toInt_lt, i3_0] at q; omega
  · rw [Int32.le_iff_toInt_le, on_t (by omega)] at q; omega
  · rw [Int32.lt_iff_toInt_lt, i3_0] at q1 q3
    rw [Int32.le_iff_toInt_le, on_t (by omega)] at q2 q4
    obtain ⟨X, e1, e2, e3, -⟩ := on_get (v := x2) (by omega)
    obtain ⟨Y, g1, g2, g3, -⟩ := on_get (v := x3) (by omega)
    rw [e2, g2] at hk
    rw [e1, g1]
    refine lp_go (C := fun p (M1 : rl_M) => (188, 19, [.ref 76, .ref a1, .int (Int32.ofNat X), .int (Int32.ofNat Y), .int t, .int c, .int (Int32.ofNat p)], [], (M1, J, rf_w r, sh_w N, n), (0, 0))) (P := fun p M1 => (∀ b, ¬ b = 82 → M1 b = M b) ∧ ∀ k, k < 192 → M1 82 k = if k % 3 < p then ae_v E X Y t (fun p => M 83 p - pt_v c (Int32.ofNat p)) W H k else E k) 3 M ⟨fun _ _ => rfl, fun k hk' => by rw [if_neg (by omega)]; exact hE k hk'⟩ ?_ ?_
    · intro p hp M1 ⟨h1, h2⟩ next
      try dsimp only at h1 h2 next ⊢
      refine bk_188_19 hF ⟨fun q => absurd ((on_le (k := 3) (by omega) (by omega)).mp q) (by omega), fun _ => ?_⟩
      rw [on_8, on_3, on_n (k := 3 * (8 * Y + X) + p) (by omega), on_n (k := p) (by omega), on_1, h1 83 (by decide), h2 _ (by omega), if_neg (by omega)]
      refine ⟨on_vp (by omega) (by omega), on_vp (by omega) hp, on_vp (by omega) (by omega), next _ ⟨fun b hb => (up_ne hb).trans (h1 b hb), fun k hk' => ?_⟩⟩
      rw [up_row]
      dsimp only
      by_cases q : k = 3 * (8 * Y + X) + p
      · rw [if_pos q, if_pos (by omega), q]
        unfold ae_v
        rw [if_pos (by omega), show (3 * (8 * Y + X) + p) % 3 = p by omega]
        rfl
      · rw [if_neg q, h2 k hk']
        by_cases q2 : k % 3 < p
        · rw [if_pos q2, if_pos (by omega)]
        · rw [if_neg q2]
          by_cases q5 : k % 3 < p + 1
          · rw [if_pos q5]
            unfold ae_v
            rw [if_neg (by omega)]
          · rw [if_neg q5]
    · intro M1 ⟨h1, h2⟩
      refine bk_188_19 hF ⟨fun _ => hk M1 h1 fun k hk' => ?_, fun q => absurd (show (3 : Int32) ≤ Int32.ofNat 3 by decide) q⟩
      rw [h2 k hk', if_pos (by omega)]
theorem i3_ad {a b : Int32} (ha : -100 ≤ a.toInt ∧ a.toInt ≤ 100) (hb : -100 ≤ b.toInt ∧ b.toInt ≤ 100) : (a + b).toInt = a.toInt + b.toInt ∧ (a - b).toInt = a.toInt - b.toInt := by
  rw [Int32.toInt_add, Int32.toInt_sub, Int.bmod_def, Int.bmod_def]
  omega
theorem cc_hand {a c : Int32} (hF : is_F a1) (hW : M a1 4 = Int32.ofNat W) (hH : M a1 5 = Int32.ofNat H) (h8 : W ≤ 8 ∧ H ≤ 8) (hx : x < 8) (hy : y < 8) (ha : a.toInt = 1 ∨ a.toInt = -1) (hm : M 76 10 = mode) (hE : ∀ k, k < 192 → M 82 k = E k)
    (hk : ∀ M', (∀ b, ¬ b = 82 → M' b = M b) → (∀ k, k < 192 → M' 82 k = if mode = 2 then er_v E x y a.toInt (fun p => M 83 p - pt_v c (Int32.ofNat p)) W H k else E k) → Q (.inl none) (M', J, rf_w r, sh_w N, n)) :
    mc_WP (mc_en 187 [.ref 76, .ref a1, .int (Int32.ofNat x), .int (Int32.ofNat y), .int a, .int c] (M, J, rf_w r, sh_w N, n)) Q := by
  have a12 : ¬ a1 = 82 := fun q => by subst q; revert hF; decide
  have tx : (Int32.ofNat x).toInt = x := on_t (by omega)
  have ty : (Int32.ofNat y).toInt = y := on_t (by omega)
  have s1 := i3_ad (a := Int32.ofNat x) (b := a) (by omega) (by omega)
  have s2 := i3_ad (a := Int32.ofNat y) (b := 1) (by omega) (by rw [i3_1]; omega)
  rw [i3_1] at s2
  refine bk_187_0 hF ?_
  rw [hm]
  refine ⟨fun q => bk_187_64 hF (hk M (fun _ _ => rfl) fun k hk' => by rw [if_neg q]; exact hE k hk'), fun q => mc_inl ?_⟩
  have q2 := Classical.not_not.mp q
  refine cc_addE hF hW hH h8 hE fun M1 r1 e1 => bk_187_22 hF (mc_inl ?_)
  refine cc_addE (E := ae_v E (x + a.toInt) y 7 (fun p => M 83 p - pt_v c (Int32.ofNat p)) W H) hF (by rw [r1 _ a12]; exact hW) (by rw [r1 _ a12]; exact hH) h8 (fun k hk' => by rw [e1 k hk', s1.1, tx, ty]) fun M2 r2 e2 => bk_187_37 hF (mc_inl ?_)
  have r2' : ∀ b, ¬ b = 82 → M2 b = M b := fun b hb => (r2 b hb).trans (r1 b hb)
  rw [r1 83 (by decide)] at e2
  refine cc_addE (E := ae_v (ae_v E (x + a.toInt) y 7 (fun p => M 83 p - pt_v c (Int32.ofNat p)) W H) (x - a.toInt) (y + 1) 3 (fun p => M 83 p - pt_v c (Int32.ofNat p)) W H) hF (by rw [r2' _ a12]; exact hW) (by rw [r2' _ a12]; exact hH) h8 (fun k hk' => by rw [e2 k hk', s1.2, s2.1, tx, ty]) fun M3 r3 e3 => bk_187_49 hF (mc_inl ?_)
  have r3' : ∀ b, ¬ b = 82 → M3 b = M b := fun b hb => (r3 b hb).trans (r2' b hb)
  rw [r2' 83 (by decide)] at e3
  refine cc_addE (E := ae_v (ae_v (ae_v E (x + a.toInt) y 7 (fun p => M 83 p - pt_v c (Int32.ofNat p)) W H) (x - a.toInt) (y + 1) 3 (fun p => M 83 p - pt_v c (Int32.ofNat p)) W H) x (y + 1) 5 (fun p => M 83 p - pt_v c (Int32.ofNat p)) W H) hF (by rw [r3' _ a12]; exact hW) (by rw [r3' _ a12]; exact hH) h8 (fun k hk' => by rw [e3 k hk', s2.1, tx, ty]) fun M4 r4 e4 => bk_187_64 hF ?_
  rw [r3' 83 (by decide)] at e4
  refine hk M4 (fun b hb => (r4 b hb).trans (r3' b hb)) fun k hk' => ?_
  rw [if_pos q2, e4 k hk', s1.1, s2.1, tx, ty]
  rfl
end
