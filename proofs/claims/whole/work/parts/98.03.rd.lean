/-! read: the class's cursor -/
section
variable {I M M' : rl_M} {J : Nat → Nat → Int64} {r N n : Nat} {Q : mc_Q} {B : rd_B} {S : Option Nat} {a a1 k m lo hi x y : Nat}
def rd_ok (B : rd_B) : Prop := B.1 ≤ 800 ∧ ∀ k, B.2 k < 256
def by_c (M : rl_M) (B : rd_B) : Prop := M 54 1 = Int32.ofNat B.1 ∧ ∀ k, k < B.1 → M 55 k = Int32.ofNat (B.2 k)
def cur_is (B : rd_B) (M : rl_M) : Option Nat → Prop
  | some a => (M 74 1 = Int32.ofNat a ∧ a ≤ B.1) ∧ M 74 2 = 1
  | none => (∃ a, M 74 1 = Int32.ofNat a ∧ a ≤ B.1) ∧ M 74 2 = 0
def tk_S (B : rd_B) (lo hi : Nat) : Option Nat → Option Nat
  | some a => if a < B.1 ∧ lo ≤ B.2 a ∧ B.2 a ≤ hi then some (a + 1) else none
  | none => none
def cur_K (M M' : rl_M) : Prop := ∀ b, ¬ b = 74 → M' b = M b
theorem cur_K.tr {M2 : rl_M} (h : cur_K M M') (h2 : cur_K M' M2) : cur_K M M2 := fun b q => (h2 b q).trans (h b q)
theorem by_cg (h : by_c M B) (h1 : M' 54 = M 54) (h2 : M' 55 = M 55) : by_c M' B := by unfold by_c; rw [h1, h2]; exact h
theorem cur_cg (h : cur_is B M S) (h1 : M' 74 = M 74) : cur_is B M' S := by
  cases S with
  | none => unfold cur_is at h ⊢; rw [h1]; exact h
  | some a => unfold cur_is at h ⊢; rw [h1]; exact h
theorem cur_pos (h : cur_is B M S) : ∃ a, M 74 1 = Int32.ofNat a ∧ a ≤ B.1 ∧ (∀ b, S = some b → b = a) ∧ ((S = none ∧ M 74 2 = 0) ∨ (S = some a ∧ M 74 2 = 1)) := by
  cases S with
  | none =>
    obtain ⟨⟨a, h1, h2⟩, h3⟩ := h
    exact ⟨a, h1, h2, (fun b q => nomatch q), Or.inl ⟨rfl, h3⟩⟩
  | some a =>
    obtain ⟨⟨h1, h2⟩, h3⟩ := h
    exact ⟨a, h1, h2, fun b q => by cases q; rfl, Or.inr ⟨rfl, h3⟩⟩
theorem tkS_some (h : tk_v B a lo hi) : tk_S B lo hi (some a) = some (a + 1) := if_pos h
theorem tkS_none (h : ¬ tk_v B a lo hi) : tk_S B lo hi (some a) = none := if_neg h
theorem tkS_inv {z : Nat} (h : tk_S B lo hi S = some z) : ∃ a, S = some a ∧ tk_v B a lo hi ∧ z = a + 1 := by
  cases S with
  | none => cases h
  | some a =>
    by_cases q : tk_v B a lo hi
    · rw [tkS_some q] at h; exact ⟨a, rfl, q, (Option.some.inj h).symm⟩
    · rw [tkS_none q] at h; cases h
/-- a byte within bounds -/
theorem cc_take (hB : rd_ok B) (hb : by_c M B) (hc : cur_is B M S) (hlh : lo ≤ hi) (hh : hi < 256)
    (hk : ∀ M' v, cur_K M M' → cur_is B M' (tk_S B lo hi S) → lo ≤ v → v ≤ hi → (∀ a, S = some a → tk_v B a lo hi → v = B.2 a) → Q (.inl (some (.int (Int32.ofNat v)))) (M', J, rf_w r, sh_w N, n)) :
    mc_WP (mc_en 138 [.ref 74, .int (Int32.ofNat lo), .int (Int32.ofNat hi)] (M, J, rf_w r, sh_w N, n)) Q := by
  obtain ⟨a, p1, p2, p3, p4⟩ := cur_pos hc
  obtain ⟨b1, b2⟩ := hb
  have hv := hB.2 a
  have h8 := hB.1
  have dead : ∀ (M' : rl_M) (v e : Nat), (∀ b, ¬ b = 74 → M' b = M b) → M' 74 1 = Int32.ofNat e → e ≤ B.1 → M' 74 2 = 0 → ¬ tk_v B a lo hi → lo ≤ v → v ≤ hi → Q (.inl (some (.int (Int32.ofNat v)))) (M', J, rf_w r, sh_w N, n) := fun M' v e k1 e1 e2 e3 hn h1 h2 => by
    refine hk M' v k1 ?_ h1 h2 fun b hb hv => absurd (p3 b hb ▸ hv) hn
    have : tk_S B lo hi S = none := by
      rcases p4 with q | q
      · rw [q.1]; rfl
      · rw [q.1]; exact tkS_none hn
    rw [this]
    exact ⟨⟨e, e1, e2⟩, e3⟩
  refine bk_138_0 ?_
  rw [p1, b1, on_n (by omega), on_1]
  refine ⟨fun q => ?_, fun q => ?_⟩
  · have ha := (on_lt (by omega) (by omega)).mp q
    rw [b2 a ha]
    refine ⟨on_vp (by omega) (by omega), fun q1 => ?_, fun q1 => ⟨fun q2 => ?_, fun q2 => ?_⟩⟩
    · have := (on_lt (by omega) (by omega)).mp q1
      exact dead _ lo (a + 1) (fun b z => by rw [up_ne z, up_ne z]) (by rw [up_nk (by decide), up_at]) (by omega) up_at (fun z => by have := z.2.1; omega) (Nat.le_refl _) hlh
    · have h1 : lo ≤ B.2 a := Nat.le_of_not_lt fun z => q1 ((on_lt (by omega) (by omega)).mpr z)
      have h2 := (on_le (by omega) (by omega)).mp q2
      have ht : tk_v B a lo hi := ⟨ha, h1, h2⟩
      refine hk _ (B.2 a) (fun b z => up_ne z) ?_ h1 h2 fun b hb hv => by rw [p3 b hb]
      rcases p4 with q | q
      · rw [q.1]
        exact ⟨⟨a + 1, up_at, by omega⟩, by rw [up_nk (by decide)]; exact q.2⟩
      · rw [q.1, tkS_some ht]
        exact ⟨⟨up_at, by omega⟩, by rw [up_nk (by decide)]; exact q.2⟩
    · have h2 : ¬ B.2 a ≤ hi := fun z => q2 ((on_le (by omega) (by omega)).mpr z)
      exact dead _ lo (a + 1) (fun b z => by rw [up_ne z, up_ne z]) (by rw [up_nk (by decide), up_at]) (by omega) up_at (fun z => h2 z.2.2) (Nat.le_refl _) hlh
  · have ha : ¬ a < B.1 := fun z => q ((on_lt (by omega) (by omega)).mpr z)
    have hn : ¬ tk_v B a lo hi := fun z => ha z.1
    refine ⟨fun q1 => ?_, fun q1 => ⟨fun q2 => ?_, fun q2 => ?_⟩⟩
    · exact dead _ lo a (fun b z => by rw [up_ne z, up_ne z]) (by rw [up_nk (by decide), up_nk (by decide)]; exact p1) p2 up_at hn (Nat.le_refl _) hlh
    · have h0 : ¬ 0 < lo := fun z => q1 ((on_lt (k := 0) (by omega) (by omega)).mpr z)
      exact dead _ 0 a (fun b z => up_ne z) (by rw [up_nk (by decide)]; exact p1) p2 up_at hn (by omega) (by omega)
    · exact absurd ((on_le (k := 0) (by omega) (by omega)).mpr (by omega)) q2
theorem cc_take0 (hB : rd_ok B) (hb : by_c M B) (hc : cur_is B M S)
    (hk : ∀ M' v, cur_K M M' → cur_is B M' (tk_S B 0 255 S) → v < 256 → (∀ a, S = some a → a < B.1 → v = B.2 a) → Q (.inl (some (.int (Int32.ofNat v)))) (M', J, rf_w r, sh_w N, n)) :
    mc_WP (mc_en 137 [.ref 74] (M, J, rf_w r, sh_w N, n)) Q := by
  obtain ⟨a, p1, p2, p3, p4⟩ := cur_pos hc
  obtain ⟨b1, b2⟩ := hb
  have hv := hB.2 a
  have h8 := hB.1
  refine bk_137_0 ?_
  rw [p1, b1, on_n (by omega), on_1]
  refine ⟨fun q => ?_, fun q => ?_⟩
  · have ha := (on_lt (by omega) (by omega)).mp q
    rw [b2 a ha]
    refine ⟨on_vp (by omega) (by omega), hk _ (B.2 a) (fun b z => up_ne z) ?_ hv fun b hb _ => by rw [p3 b hb]⟩
    rcases p4 with q | q
    · rw [q.1]
      exact ⟨⟨a + 1, up_at, by omega⟩, by rw [up_nk (by decide)]; exact q.2⟩
    · rw [q.1, tkS_some ⟨ha, by omega, by omega⟩]
      exact ⟨⟨up_at, by omega⟩, by rw [up_nk (by decide)]; exact q.2⟩
  · have ha : ¬ a < B.1 := fun z => q ((on_lt (by omega) (by omega)).mpr z)
    refine hk _ 0 (fun b z => up_ne z) ?_ (by decide) fun b hb hlt => absurd (p3 b hb ▸ hlt) ha
    have : tk_S B 0 255 S = none := by
      rcases p4 with q | q
      · rw [q.1]; rfl
      · rw [q.1]; exact tkS_none fun z => ha z.1
    rw [this]
    exact ⟨⟨a, by rw [up_nk (by decide)]; exact p1, p2⟩, up_at⟩
/-- a colour's three bytes -/
theorem or_8 (hx : x < 65536) (hy : y < 256) : (Int32.ofNat x <<< ((8 : Int32) &&& 31)) ||| Int32.ofNat y = Int32.ofNat (x * 256 + y) := by
  have tx : (Int32.ofNat x).toBitVec.toNat = x := by show x % 2 ^ 32 = x; exact Nat.mod_eq_of_lt (by omega)
  have ty : (Int32.ofNat y).toBitVec.toNat = y := by show y % 2 ^ 32 = y; exact Nat.mod_eq_of_lt (by omega)
  have ts : (Int32.ofNat (x * 256 + y)).toBitVec.toNat = x * 256 + y := by show (x * 256 + y) % 2 ^ 32 = _; exact Nat.mod_eq_of_lt (by omega)
  have sh : (Int32.ofNat x <<< ((8 : Int32) &&& 31)).toBitVec = (Int32.ofNat x).toBitVec <<< 8 := rfl
  have e : ((Int32.ofNat x <<< ((8 : Int32) &&& 31)) ||| Int32.ofNat y).toBitVec.toNat = x * 256 + y := by
    show ((Int32.ofNat x <<< ((8 : Int32) &&& 31)).toBitVec ||| (Int32.ofNat y).toBitVec).toNat = _
    rw [sh, BitVec.toNat_or, BitVec.toNat_shiftLeft, tx, ty, Nat.shiftLeft_eq, Nat.mod_eq_of_lt (by omega), ← Nat.shiftLeft_eq, ← Nat.shiftLeft_add_eq_or_of_lt hy, Nat.shiftLeft_eq]
  rw [← Int32.toInt_inj, bn_u _ (by rw [e]; omega), bn_u _ (by rw [ts]; omega), e, ts]
theorem an_24 (hx : x < 16777216) : Int32.ofNat x &&& Int32.ofNat 16777215 = Int32.ofNat x := by
  have tx : (Int32.ofNat x).toBitVec.toNat = x := by show x % 2 ^ 32 = x; exact Nat.mod_eq_of_lt (by omega)
  have e : (Int32.ofNat x &&& Int32.ofNat 16777215).toBitVec.toNat = x := by
    show ((Int32.ofNat x).toBitVec &&& (Int32.ofNat 16777215).toBitVec).toNat = x
    rw [BitVec.toNat_and, tx, show (Int32.ofNat 16777215).toBitVec.toNat = 2 ^ 24 - 1 from rfl, Nat.and_two_pow_sub_one_eq_mod]
    exact Nat.mod_eq_of_lt (by omega)
  rw [← Int32.toInt_inj, bn_u _ (by rw [e]; omega), bn_u _ (by rw [tx]; omega), e, tx]
def cv_f (B : rd_B) (p : Nat) : Int32 := Int32.ofNat ((B.2 p * 256 + B.2 (p + 1)) * 256 + B.2 (p + 2))
theorem cv_b (hB : rd_ok B) : 0 ≤ (cv_f B a).toInt ∧ (cv_f B a).toInt < 16777216 := by
  have h1 := hB.2 a
  have h2 := hB.2 (a + 1)
  have h3 := hB.2 (a + 2)
  unfold cv_f
  rw [on_t (by omega)]
  omega
def co_S (B : rd_B) (k : Nat) : Option Nat → Option Nat
  | some a => if a + 3 * k ≤ B.1 then some (a + 3 * k) else none
  | none => none
theorem coS_some (h : a + 3 * k ≤ B.1) : co_S B k (some a) = some (a + 3 * k) := if_pos h
theorem coS_none (h : ¬ a + 3 * k ≤ B.1) : co_S B k (some a) = none := if_neg h
theorem coS_0 (h : cur_is B M S) : co_S B 0 S = S := by
  cases S with
  | none => rfl
  | some a => exact if_pos (by have := h.1.2; omega)
theorem coS_s (hB : rd_ok B) : tk_S B 0 255 (tk_S B 0 255 (tk_S B 0 255 (co_S B k S))) = co_S B (k + 1) S := by
  have t : ∀ b, b < B.1 → tk_S B 0 255 (some b) = some (b + 1) := fun b hb => tkS_some ⟨hb, by omega, by have := hB.2 b; omega⟩
  have t' : ∀ b, ¬ b < B.1 → tk_S B 0 255 (some b) = none := fun b hb => tkS_none fun z => hb z.1
  cases S with
  | none => rfl
  | some a =>
    by_cases q : a + 3 * (k + 1) ≤ B.1
    · rw [coS_some q, coS_some (by omega), t _ (by omega), t _ (by omega), t _ (by omega)]
      congr 1
    · rw [coS_none q]
      by_cases q2 : a + 3 * k ≤ B.1
      · rw [coS_some q2]
        by_cases q3 : a + 3 * k < B.1
        · rw [t _ q3]
          by_cases q4 : a + 3 * k + 1 < B.1
          · rw [t _ q4, t' _ (by omega)]
          · rw [t' _ q4]; rfl
        · rw [t' _ q3]; rfl
      · rw [coS_none q2]; rfl
theorem cc_col1 {x2 x3 x4 : Int32} (hp : is_P a1) (hx : ¬ (3 : Int32) ≤ x4) (hB : rd_ok B) (hb : by_c M B) (hc : cur_is B M S)
    (hk : ∀ M' v, cur_K M M' → cur_is B M' (tk_S B 0 255 S) → v < 256 → (∀ a, S = some a → a < B.1 → v = B.2 a) → mc_WP (159, 15, [.ref 65, .ref a1, .int x2, .int ((x3 <<< ((8 : Int32) &&& 31)) ||| Int32.ofNat v), .int (x4 + 1)], [], (M', J, rf_w r, sh_w N, n), (0, 0)) Q) :
    mc_WP (159, 15, [.ref 65, .ref a1, .int x2, .int x3, .int x4], [], (M, J, rf_w r, sh_w N, n), (0, 0)) Q := by
  obtain ⟨a, p1, p2, p3, p4⟩ := cur_pos hc
  obtain ⟨b1, b2⟩ := hb
  have hv := hB.2 a
  have h8 := hB.1
  refine bk_159_15 hp ⟨fun q => absurd q hx, fun _ => ?_⟩
  rw [p1, b1, on_n (by omega), on_1]
  refine ⟨fun q => ?_, fun q => ?_⟩
  · have ha := (on_lt (by omega) (by omega)).mp q
    rw [b2 a ha]
    refine ⟨on_vp (by omega) (by omega), hk _ (B.2 a) (fun b z => up_ne z) ?_ hv fun b hb _ => by rw [p3 b hb]⟩
    rcases p4 with q | q
    · rw [q.1]
      exact ⟨⟨a + 1, up_at, by omega⟩, by rw [up_nk (by decide)]; exact q.2⟩
    · rw [q.1, tkS_some ⟨ha, by omega, by omega⟩]
      exact ⟨⟨up_at, by omega⟩, by rw [up_nk (by decide)]; exact q.2⟩
  · have ha : ¬ a < B.1 := fun z => q ((on_lt (by omega) (by omega)).mpr z)
    refine hk _ 0 (fun b z => up_ne z) ?_ (by decide) fun b hb hlt => absurd (p3 b hb ▸ hlt) ha
    have : tk_S B 0 255 S = none := by
      rcases p4 with q | q
      · rw [q.1]; rfl
      · rw [q.1]; exact tkS_none fun z => ha z.1
    rw [this]
    exact ⟨⟨a, by rw [up_nk (by decide)]; exact p1, p2⟩, up_at⟩
theorem cc_colours (hp : is_P a1) (hB : rd_ok B) (hb : by_c M B) (hc : cur_is B M S) (hn : M a1 1 = Int32.ofNat m) (hm : m ≤ 16)
    (hk : ∀ M', (∀ b, ¬ b = 74 → ¬ b = a1 + 1 → M' b = M b) → cur_is B M' (co_S B m S) → (∀ k, m ≤ k → M' (a1 + 1) k = M (a1 + 1) k) → (∀ a, S = some a → a + 3 * m ≤ B.1 → ∀ k, k < m → M' (a1 + 1) k = cv_f B (a + 3 * k)) → Q (.inl none) (M', J, rf_w r, sh_w N, n)) :
    mc_WP (mc_en 159 [.ref 65, .ref a1] (M, J, rf_w r, sh_w N, n)) Q := by
  have hpn : a1 < 53 := by simp only [is_P, List.mem_cons, List.not_mem_nil, or_false] at hp; omega
  refine bk_159_0 hp ?_
  refine lp_go (C := fun k (i : rl_M × Value × Value) => (159, 2, [.ref 65, .ref a1, .int (Int32.ofNat k), i.2.1, i.2.2], [], (i.1, J, rf_w r, sh_w N, n), (0, 0))) (P := fun k i => (∀ b, ¬ b = 74 → ¬ b = a1 + 1 → i.1 b = M b) ∧ cur_is B i.1 (co_S B k S) ∧ (∀ j, k ≤ j → i.1 (a1 + 1) j = M (a1 + 1) j) ∧ (∀ a, S = some a → a + 3 * k ≤ B.1 → ∀ j, j < k → i.1 (a1 + 1) j = cv_f B (a + 3 * j))) m (M, .null, .null) ⟨fun _ _ _ => rfl, by rw [coS_0 hc]; exact hc, fun _ _ => rfl, fun _ _ _ j hj => absurd hj (by omega)⟩ ?_ ?_
  · intro k hk' ⟨M1, z3, z4⟩ ⟨i1, i2, i3, i4⟩ ih
    dsimp only at i1 i2 i3 i4 ih ⊢
    have bc : ∀ M2 : rl_M, (∀ b, ¬ b = 74 → ¬ b = a1 + 1 → M2 b = M b) → by_c M2 B := fun M2 h => by_cg hb (h 54 (by decide) (by omega)) (h 55 (by decide) (by omega))
    refine bk_159_2 hp ?_
    rw [i1 a1 (by omega) (by omega), hn]
    refine ⟨fun q => absurd ((on_le (by omega) (by omega)).mp q) (by omega), fun _ => ?_⟩
    refine cc_col1 hp (by decide) hB (bc _ i1) i2 fun M2 v1 k2 c2 w1 e1 => ?_
    have i12 : ∀ b, ¬ b = 74 → ¬ b = a1 + 1 → M2 b = M b := fun b q1 q2 => (k2 b q1).trans (i1 b q1 q2)
    rw [show (0 : Int32) = Int32.ofNat 0 from rfl, or_8 (by decide) w1, on_1]
    refine cc_col1 hp (by decide) hB (bc _ i12) c2 fun M3 v2 k3 c3 w2 e2 => ?_
    have i13 : ∀ b, ¬ b = 74 → ¬ b = a1 + 1 → M3 b = M b := fun b q1 q2 => (k3 b q1).trans (i12 b q1 q2)
    rw [or_8 (by omega) w2, on_1]
    refine cc_col1 hp (by decide) hB (bc _ i13) c3 fun M4 v3 k4 c4 w3 e3 => ?_
    have i14 : ∀ b, ¬ b = 74 → ¬ b = a1 + 1 → M4 b = M b := fun b q1 q2 => (k4 b q1).trans (i13 b q1 q2)
    rw [or_8 (by omega) w3, on_1]
    rw [coS_s hB] at c4
    have row : M4 (a1 + 1) = M1 (a1 + 1) := by rw [k4 _ (by omega), k3 _ (by omega), k2 _ (by omega)]
    refine bk_159_15 hp ⟨fun _ => ?_, fun q => absurd (by decide) q⟩
    rw [on_n (by omega), on_1, an_24 (by omega)]
    refine ⟨on_vp (by omega) (by omega), ?_⟩
    generalize hM5 : mc_up M4 (a1 + 1) k (Int32.ofNat (((0 * 256 + v1) * 256 + v2) * 256 + v3)) = M5
    refine ih (M5, _, _) ⟨fun b q1 q2 => by show M5 b = M b; rw [← hM5, up_ne q2]; exact i14 b q1 q2, cur_cg c4 (by show M5 74 = M4 74; rw [← hM5, up_ne (by omega)]), fun j hj => ?_, fun a hS hle j hj => ?_⟩
    · show M5 (a1 + 1) j = _
      rw [← hM5, up_nk (by omega), row]; exact i3 j (by omega)
    · by_cases z : j = k
      · subst z
        show M5 (a1 + 1) j = _
        rw [← hM5, up_at]
        have s0 : co_S B j S = some (a + 3 * j) := by rw [hS]; exact coS_some (by omega)
        have t : ∀ b, b < B.1 → tk_S B 0 255 (some b) = some (b + 1) := fun b hb => tkS_some ⟨hb, by omega, by have := hB.2 b; omega⟩
        have g1 := e1 _ s0 (by omega)
        rw [s0, t _ (by omega)] at e2 c2
        have g2 := e2 _ rfl (by omega)
        rw [s0, t _ (by omega), t _ (by omega)] at e3
        have g3 := e3 _ rfl (by omega)
        rw [g1, g2, g3]
        unfold cv_f
        rw [Nat.zero_mul, Nat.zero_add]
      · show M5 (a1 + 1) j = _
        rw [← hM5, up_nk z, row]; exact i4 a hS (by omega) j (by omega)
  · intro ⟨M1, z3, z4⟩ ⟨i1, i2, i3, i4⟩
    dsimp only at i1 i2 i3 i4 ⊢
    refine bk_159_2 hp ?_
    rw [i1 a1 (by omega) (by omega), hn]
    exact ⟨fun _ => hk M1 i1 i2 i3 i4, fun q => absurd ((on_le (by omega) (by omega)).mpr (Nat.le_refl _)) q⟩
end
