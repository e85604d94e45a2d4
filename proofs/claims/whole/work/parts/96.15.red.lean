/-! reduce: a pixel's number: the reference -/
section
variable {I M M' : rl_M} {J : Nat → Nat → Int64} {r N n : Nat} {Q : mc_Q} {mn : Nat → Int32} {c v w0 w1 w2 mode a : Int32} {nb k b x y W H f : Nat} {E : rl_A}
theorem on_p2 : Int32.ofNat k + 2 = Int32.ofNat (k + 2) := by rw [Int32.ofNat_add]; rfl
theorem cm_bound (hk : Q (.inl (some (.int (cl_v v)))) (M, J, rf_w r, sh_w N, n)) : mc_WP (mc_en 120 [.int v] (M, J, rf_w r, sh_w N, n)) Q := by
  unfold cl_v at hk
  refine bk_120_0 ⟨fun q => ⟨fun q2 => ?_, fun q2 => ?_⟩, fun q => ?_⟩
  · rw [if_pos q, if_pos q2] at hk; exact hk
  · rw [if_pos q, if_neg q2] at hk; exact hk
  · rw [if_neg q] at hk; exact hk
/-- one part of the error to one place -/
def ag_v (E : rl_A) (X Y : Int) (p : Nat) (e : Int32) (W H : Nat) : rl_A := fun k => if ((0 ≤ X ∧ X < W ∧ 0 ≤ Y ∧ Y < H) ∧ X = ((k / 3 % 8 : Nat) : Int) ∧ Y = ((k / 24 : Nat) : Int)) ∧ k % 3 = p then E k + e else E k
theorem cm_goes {x1 x2 e : Int32} {p : Nat} (hp : p < 3) (e2 : M 85 2 = Int32.ofNat W) (e3 : M 85 3 = Int32.ofNat H) (h8 : W ≤ 8 ∧ H ≤ 8) (hy : 0 ≤ x2.toInt) (hE : ∀ k, k < 192 → M 104 k = E k)
    (hk : ∀ M', (∀ b, ¬ b = 104 → M' b = M b) → (∀ k, k < 192 → M' 104 k = ag_v E x1.toInt x2.toInt p e W H k) → Q (.inl none) (M', J, rf_w r, sh_w N, n)) :
    mc_WP (mc_en 121 [.ref 84, .int x1, .int x2, .int (Int32.ofNat p), .int e] (M, J, rf_w r, sh_w N, n)) Q := by
  have out : ¬ (0 ≤ x1.toInt ∧ x1.toInt < W ∧ 0 ≤ x2.toInt ∧ x2.toInt < H) → Q (.inl none) (M, J, rf_w r, sh_w N, n) := fun h => hk M (fun _ _ => rfl) fun k hk' => by
    unfold ag_v
    rw [if_neg (fun z => h z.1.1)]
    exact hE k hk'
  refine bk_121_0 ?_
  rw [e2, e3]
  refine ⟨fun q => out ?_, fun q1 => ⟨fun q => out ?_, fun q2 => ⟨fun q => out ?_, fun q3 => ?_⟩⟩⟩
  · rw [Int32.lt_iff_toInt_lt, i3_0] at q; omega
  · rw [Int32.le_iff_toInt_le, on_t (by omega)] at q; omega
  · rw [Int32.le_iff_toInt_le, on_t (by omega)] at q; omega
  · rw [Int32.lt_iff_toInt_lt, i3_0] at q1
    rw [Int32.le_iff_toInt_le, on_t (by omega)] at q2 q3
    obtain ⟨X, f1, f2, f3, -⟩ := on_get (v := x1) (by omega)
    obtain ⟨Y, g1, g2, g3, -⟩ := on_get (v := x2) (by omega)
    rw [f2, g2] at hk
    rw [f1, g1]
    have ei : (24 : Int32) * Int32.ofNat Y + 3 * Int32.ofNat X + Int32.ofNat p = Int32.ofNat (24 * Y + 3 * X + p) := by rw [Int32.ofNat_add, Int32.ofNat_add, Int32.ofNat_mul, Int32.ofNat_mul]; rfl
    rw [ei, on_n (by omega), hE _ (by omega)]
    refine ⟨on_vp (by omega) (by omega), on_vp (by omega) (by omega), hk _ (fun b hb => up_ne hb) fun k hk' => ?_⟩
    rw [up_row]
    dsimp only
    unfold ag_v
    by_cases q : k = 24 * Y + 3 * X + p
    · rw [if_pos q, if_pos (by omega), q]
    · rw [if_neg q, if_neg (by omega)]
      exact hE k hk'
def gp_v (E : rl_A) (x y : Nat) (a : Int) (p : Nat) (D : Int32) (W H : Nat) : rl_A := ag_v (ag_v (ag_v (ag_v E (x + a) y p (7 * D) W H) (x - a) (y + 1) p (3 * D) W H) x (y + 1) p (5 * D) W H) (x + a) (y + 1) p D W H
theorem gp_ne {D : Int32} {p : Nat} {a : Int} (h : ¬ k % 3 = p) : gp_v E x y a p D W H k = E k := by
  unfold gp_v ag_v
  rw [if_neg (fun z => h z.2), if_neg (fun z => h z.2), if_neg (fun z => h z.2), if_neg (fun z => h z.2)]
theorem gp_at {D : Nat → Int32} {a : Int} {E' : rl_A} (h : E' k = E k) : gp_v E' x y a (k % 3) (D (k % 3)) W H k = er_v E x y a D W H k := by
  unfold gp_v er_v ag_v ae_v
  simp only [and_true, h, Int32.one_mul]
theorem gp_3 {D : Nat → Int32} {a : Int} : gp_v (gp_v (gp_v E x y a 0 (D 0) W H) x y a 1 (D 1) W H) x y a 2 (D 2) W H k = er_v E x y a D W H k := by
  rcases (show k % 3 = 0 ∨ k % 3 = 1 ∨ k % 3 = 2 by omega) with h | h | h
  · rw [gp_ne (by omega), gp_ne (by omega), ← h]
    exact gp_at rfl
  · rw [gp_ne (by omega), ← h]
    exact gp_at (gp_ne (by omega))
  · have := gp_at (E := E) (E' := gp_v (gp_v E x y a 0 (D 0) W H) x y a 1 (D 1) W H) (k := k) (x := x) (y := y) (a := a) (D := D) (W := W) (H := H) (by rw [gp_ne (by omega), gp_ne (by omega)])
    rw [h] at this
    exact this
set_option maxHeartbeats 2000000 in
theorem cm_byErr (hx : x < 8) (hy : y < 8) (hc : M 92 (8 * y + x) = c) (e2 : M 85 2 = Int32.ofNat W) (e3 : M 85 3 = Int32.ofNat H) (h8 : W ≤ 8 ∧ H ≤ 8) (hn : M 84 32 = Int32.ofNat nb) (h16 : 1 ≤ nb ∧ nb ≤ 16) (ha : a.toInt = 1 ∨ a.toInt = -1) (hE : ∀ k, k < 192 → M 104 k = E k)
    (hk : ∀ M', (∀ b, ¬ b = 104 → M' b = M b) → (∀ k, k < 192 → M' 104 k = er_v E x y a.toInt (fun p => wi_v 2 E c x y p - pt_v (M 103 (nr_i (wi_v 2 E c x y 0) (wi_v 2 E c x y 1) (wi_v 2 E c x y 2) (M 103) nb)) (Int32.ofNat p)) W H k) → Q (.inl (some (.int (Int32.ofNat (nr_i (wi_v 2 E c x y 0) (wi_v 2 E c x y 1) (wi_v 2 E c x y 2) (M 103) nb))))) (M', J, rf_w r, sh_w N, n)) :
    mc_WP (mc_en 122 [.ref 84, .int (Int32.ofNat x), .int (Int32.ofNat y), .int a] (M, J, rf_w r, sh_w N, n)) Q := by
  have tx : (Int32.ofNat x).toInt = x := on_t (by omega)
  have ty : (Int32.ofNat y).toInt = y := on_t (by omega)
  have s1 := i3_ad (a := Int32.ofNat x) (b := a) (by omega) (by omega)
  have s2 := i3_ad (a := Int32.ofNat y) (b := 1) (by omega) (by rw [i3_1]; omega)
  rw [i3_1] at s2
  have ei : (24 : Int32) * Int32.ofNat y + 3 * Int32.ofNat x = Int32.ofNat (24 * y + 3 * x) := by rw [Int32.ofNat_add, Int32.ofNat_mul, Int32.ofNat_mul]; rfl
  have ew : ∀ p, cl_v (pt_v c (Int32.ofNat p) + E (24 * y + 3 * x + p) / 16) = wi_v 2 E c x y p := fun p => by
    unfold wi_v mo_v
    rw [if_neg (by decide)]
  have w0 := ew 0
  have w1 := ew 1
  have w2 := ew 2
  rw [Nat.add_zero] at w0
  generalize hw0 : wi_v 2 E c x y 0 = g0 at *
  generalize hw1 : wi_v 2 E c x y 1 = g1 at *
  generalize hw2 : wi_v 2 E c x y 2 = g2 at *
  have b0 : wt_b g0 := by rw [← w0]; exact cl_b _
  have b1 : wt_b g1 := by rw [← w1]; exact cl_b _
  have b2 : wt_b g2 := by rw [← w2]; exact cl_b _
  have hnr := nr_lt (w0 := g0) (w1 := g1) (w2 := g2) (mn := M 103) (nb := nb) h16.1
  generalize hB : nr_i g0 g1 g2 (M 103) nb = B at *
  refine bk_122_0 ?_
  rw [on_8', ei, on_n (k := 8 * y + x) (by omega), on_n (k := 24 * y + 3 * x) (by omega), hc, hE _ (by omega)]
  refine ⟨on_vp (by omega) (by omega), on_vp (by omega) (by omega), by decide, mc_inl ?_⟩
  refine cm_bound ?_
  refine bk_122_39 ?_
  rw [ei, on_1 (k := 24 * y + 3 * x), on_n (k := 24 * y + 3 * x + 1) (by omega), hE _ (by omega)]
  refine ⟨on_vp (by omega) (by omega), by decide, mc_inl ?_⟩
  refine cm_bound ?_
  refine bk_122_69 ?_
  rw [ei, on_p2 (k := 24 * y + 3 * x), on_n (k := 24 * y + 3 * x + 2) (by omega), hE _ (by omega)]
  refine ⟨on_vp (by omega) (by omega), by decide, mc_inl ?_⟩
  refine cm_bound ?_
  have w0' : cl_v ((c >>> (((16 : Int32) - ((8 : Int32) * (0 : Int32))) &&& 31) &&& (255 : Int32)) + E (24 * y + 3 * x) / 16) = g0 := w0
  have w1' : cl_v ((c >>> (((16 : Int32) - ((8 : Int32) * (1 : Int32))) &&& 31) &&& (255 : Int32)) + E (24 * y + 3 * x + 1) / 16) = g1 := w1
  have w2' : cl_v ((c >>> (((16 : Int32) - ((8 : Int32) * (2 : Int32))) &&& 31) &&& (255 : Int32)) + E (24 * y + 3 * x + 2) / 16) = g2 := w2
  rw [w0', w1', w2']
  refine bk_122_99 (mc_inl ?_)
  refine cm_near hn h16 b0 b1 b2 ?_
  rw [hB]
  refine bk_122_111 ?_
  -- one part
  have part : ∀ (p : Nat) (F : rl_A) (g : Int32) (M1 : rl_M) (z : Value), p < 3 → (∀ b, ¬ b = 104 → M1 b = M b) → (∀ k, k < 192 → M1 104 k = F k) →
      (∀ M2 z, (∀ b, ¬ b = 104 → M2 b = M b) → (∀ k, k < 192 → M2 104 k = gp_v F x y a.toInt p (g - pt_v (M 103 B) (Int32.ofNat p)) W H k) → mc_WP (122, 116, [.ref 84, .int (Int32.ofNat x), .int (Int32.ofNat y), .int a, .int c, .int g0, .int g1, .int g2, .int (Int32.ofNat B), .int (Int32.ofNat (p + 1)), z], [], (M2, J, rf_w r, sh_w N, n), (0, 0)) Q) →
      mc_WP (122, 145, [.ref 84, .int (Int32.ofNat x), .int (Int32.ofNat y), .int a, .int c, .int g0, .int g1, .int g2, .int (Int32.ofNat B), .int (Int32.ofNat p), z], [.int g], (M1, J, rf_w r, sh_w N, n), (0, 0)) Q := by
    intro p F g M1 z hp hr hF hnext
    refine bk_122_145 ⟨on_vp (by omega) (by omega), ?_⟩
    rw [on_n (k := B) (by omega), hr 103 (by decide), pt_m (pn_3 hp)]
    generalize g - pt_v (M 103 B) (Int32.ofNat p) = D at *
    refine mc_inl ?_
    refine cm_goes hp (by rw [hr 85 (by decide)]; exact e2) (by rw [hr 85 (by decide)]; exact e3) h8 (by omega) hF fun M2 r2 f2 => bk_122_175 (mc_inl ?_)
    have q2 : ∀ b, ¬ b = 104 → M2 b = M b := fun b hb => (r2 b hb).trans (hr b hb)
    refine cm_goes (E := ag_v F (x + a.toInt) y p (7 * D) W H) hp (by rw [q2 85 (by decide)]; exact e2) (by rw [q2 85 (by decide)]; exact e3) h8 (by omega) (fun k hk' => by rw [f2 k hk', s1.1, tx, ty]) fun M3 r3 f3 => bk_122_191 (mc_inl ?_)
    have q3 : ∀ b, ¬ b = 104 → M3 b = M b := fun b hb => (r3 b hb).trans (q2 b hb)
    refine cm_goes (E := ag_v (ag_v F (x + a.toInt) y p (7 * D) W H) (x - a.toInt) (y + 1) p (3 * D) W H) hp (by rw [q3 85 (by decide)]; exact e2) (by rw [q3 85 (by decide)]; exact e3) h8 (by omega) (fun k hk' => by rw [f3 k hk', s1.2, s2.1, tx, ty]) fun M4 r4 f4 => bk_122_205 (mc_inl ?_)
    have q4 : ∀ b, ¬ b = 104 → M4 b = M b := fun b hb => (r4 b hb).trans (q3 b hb)
    refine cm_goes (E := ag_v (ag_v (ag_v F (x + a.toInt) y p (7 * D) W H) (x - a.toInt) (y + 1) p (3 * D) W H) x (y + 1) p (5 * D) W H) hp (by rw [q4 85 (by decide)]; exact e2) (by rw [q4 85 (by decide)]; exact e3) h8 (by omega) (fun k hk' => by rw [f4 k hk', s2.1, tx, ty]) fun M5 r5 f5 => bk_122_219 ?_
    rw [on_1 (k := p)]
    refine hnext M5 _ (fun b hb => (r5 b hb).trans (q4 b hb)) fun k hk' => ?_
    rw [f5 k hk', s1.1, s2.1, tx, ty]
    rfl
  let D : Nat → Int32 := fun p => wi_v 2 E c x y p - pt_v (M 103 B) (Int32.ofNat p)
  have D0 : g0 - pt_v (M 103 B) (Int32.ofNat 0) = D 0 := by show _ = wi_v 2 E c x y 0 - _; rw [hw0]
  have D1 : g1 - pt_v (M 103 B) (Int32.ofNat 1) = D 1 := by show _ = wi_v 2 E c x y 1 - _; rw [hw1]
  have D2 : g2 - pt_v (M 103 B) (Int32.ofNat 2) = D 2 := by show _ = wi_v 2 E c x y 2 - _; rw [hw2]
  refine bk_122_116 ⟨fun q => absurd q (by decide), fun _ => ⟨fun q => absurd rfl q, fun _ => ?_⟩⟩
  refine part 0 E g0 M _ (by decide) (fun _ _ => rfl) hE fun M2 z2 r2 f2 => ?_
  rw [D0] at f2
  refine bk_122_116 ⟨fun q => absurd q (by decide), fun _ => ⟨fun _ => ⟨fun q => absurd rfl q, fun _ => ?_⟩, fun q => absurd (by decide) q⟩⟩
  refine part 1 _ g1 M2 z2 (by decide) r2 f2 fun M3 z3 r3 f3 => ?_
  rw [D1] at f3
  refine bk_122_116 ⟨fun q => absurd q (by decide), fun _ => ⟨fun _ => ⟨fun _ => ?_, fun q => absurd (by decide) q⟩, fun q => absurd (by decide) q⟩⟩
  refine part 2 _ g2 M3 z3 (by decide) r3 f3 fun M4 z4 r4 f4 => ?_
  rw [D2] at f4
  refine bk_122_116 ⟨fun _ => hk M4 r4 fun k hk' => ?_, fun q => absurd (show (3 : Int32) ≤ Int32.ofNat 3 by decide) q⟩
  rw [f4 k hk']
  exact gp_3
end
