/-! read: bytes, blocks, bits: pure -/
section
abbrev rd_B : Type := Nat × (Nat → Nat)
abbrev rd_c : Type := Nat × Nat
abbrev rd_S : Type := rd_c × Nat × Nat
variable {B : rd_B} {a v t t' s n w k z y : Nat} {c c' : rd_c} {st st' : rd_S} {D : List Nat} {segs : List (List Nat)}
abbrev tk_v (B : rd_B) (a lo hi : Nat) : Prop := a < B.1 ∧ lo ≤ B.2 a ∧ B.2 a ≤ hi
def sg_b (B : rd_B) (a v : Nat) : List Nat := (List.range v).map fun i => B.2 (a + i)
theorem sgb_len : (sg_b B a v).length = v := by unfold sg_b; rw [List.length_map, List.length_range]
theorem sgb_succ : sg_b B a (v + 1) = B.2 a :: sg_b B (a + 1) v := by
  unfold sg_b
  rw [List.range_succ_eq_map, List.map_cons, List.map_map]
  refine congrArg _ (List.map_congr_left fun i _ => ?_)
  show B.2 (a + (i + 1)) = B.2 (a + 1 + i)
  rw [Nat.add_assoc, Nat.add_comm 1 i]
/-- the blocks behind a size -/
def bk_n (B : rd_B) : Nat → Nat → Nat → Option (List (List Nat) × Nat)
  | 0, _, _ => none
  | t + 1, v, a => if v = 0 then some ([], a) else if a + v < B.1 then (bk_n B t (B.2 (a + v)) (a + v + 1)).map (fun r => (sg_b B a v :: r.1, r.2)) else none
theorem bkn_0 : bk_n B (t + 1) 0 a = some ([], a) := rfl
theorem bkn_s (hv : ¬ v = 0) (h : a + v < B.1) : bk_n B (t + 1) v a = (bk_n B t (B.2 (a + v)) (a + v + 1)).map (fun r => (sg_b B a v :: r.1, r.2)) := by
  show (if v = 0 then _ else if _ then _ else _) = _
  rw [if_neg hv, if_pos h]
theorem bkn_n (hv : ¬ v = 0) (h : ¬ a + v < B.1) : bk_n B (t + 1) v a = none := by
  show (if v = 0 then _ else if _ then _ else _) = _
  rw [if_neg hv, if_neg h]
theorem bk_fuel : ∀ t t' v a, a ≤ B.1 → B.1 < a + t → B.1 < a + t' → bk_n B t v a = bk_n B t' v a := by
  intro t
  induction t with
  | zero => intro t' v a h0 h1 h2; omega
  | succ t ih =>
    intro t' v a h0 h1 h2
    match t', h2 with
    | 0, h2 => omega
    | t' + 1, h2 =>
      by_cases q : v = 0
      · rw [q]; rfl
      · by_cases q2 : a + v < B.1
        · rw [bkn_s q q2, bkn_s q q2, ih t' _ _ (by omega) (by omega) (by omega)]
        · rw [bkn_n q q2, bkn_n q q2]
/-- all blocks from a position -/
def bk_s (B : rd_B) (a : Nat) : Option (List (List Nat) × Nat) := if a < B.1 then bk_n B 900 (B.2 a) (a + 1) else none
/-- one step: a size and the next -/
theorem bks_0 (h : a < B.1) (hv : B.2 a = 0) : bk_s B a = some ([], a + 1) := by unfold bk_s; rw [if_pos h, hv]; rfl
theorem bks_s (hB : B.1 ≤ 800) (h : a < B.1) (hv : ¬ B.2 a = 0) : bk_s B a = (bk_s B (a + 1 + B.2 a)).map (fun r => (sg_b B (a + 1) (B.2 a) :: r.1, r.2)) := by
  unfold bk_s
  rw [if_pos h]
  by_cases q : a + 1 + B.2 a < B.1
  · rw [if_pos q, bkn_s hv q, bk_fuel 899 900 _ _ (by omega) (by omega) (by omega)]
  · rw [if_neg q, bkn_n hv q]; rfl
theorem bks_n (h : ¬ a < B.1) : bk_s B a = none := by unfold bk_s; rw [if_neg h]
/-- the next byte of the data, and where one is then: position, bytes left in the block -/
def nb_f (B : rd_B) (c : rd_c) : Option (Nat × rd_c) := if c.2 = 0 then (if c.1 + 1 < B.1 ∧ 1 ≤ B.2 c.1 then some (B.2 (c.1 + 1), (c.1 + 2, B.2 c.1 - 1)) else none) else (if c.1 < B.1 then some (B.2 c.1, (c.1 + 1, c.2 - 1)) else none)
/-- what is left of the data -/
def rm_f (B : rd_B) (c : rd_c) : Option (List Nat × List (List Nat) × Nat) := (bk_s B (c.1 + c.2)).map fun r => (sg_b B c.1 c.2, r.1, r.2)
def fi_c (B : rd_B) (c : rd_c) : Prop := c.1 + c.2 < B.1 ∧ B.2 (c.1 + c.2) = 0
/-- where the last block begins -/
def ls_f : List (List Nat) → Nat
  | [] => 0
  | [_] => 0
  | x :: y :: l => x.length + ls_f (y :: l)
theorem rm_fin (hB : B.1 ≤ 800) (h : fi_c B c) : ∃ cur, rm_f B c = some (cur, [], c.1 + c.2 + 1) := ⟨_, by unfold rm_f; rw [bks_0 h.1 h.2]; rfl⟩
theorem rm_fin' (hB : B.1 ≤ 800) {cur : List Nat} (h : rm_f B c = some (cur, [], z)) : fi_c B c ∧ z = c.1 + c.2 + 1 := by
  unfold rm_f at h
  by_cases q : c.1 + c.2 < B.1
  · by_cases q2 : B.2 (c.1 + c.2) = 0
    · rw [bks_0 q q2] at h
      have := Option.some.inj h
      exact ⟨⟨q, q2⟩, by rw [Prod.mk.injEq, Prod.mk.injEq] at this; exact this.2.2.symm⟩
    · rw [bks_s hB q q2] at h
      cases h3 : bk_s B (c.1 + c.2 + 1 + B.2 (c.1 + c.2)) with
      | none => rw [h3] at h; cases h
      | some p =>
        rw [h3] at h
        have := Option.some.inj h
        rw [Prod.mk.injEq, Prod.mk.injEq] at this
        exact absurd this.2.1 (by simp)
  · rw [bks_n q] at h; cases h
/-- a byte more -/
theorem rm_step (hB : B.1 ≤ 800) (h : nb_f B c = some (y, c')) : (rm_f B c = none → rm_f B c' = none) ∧
    ∀ cur segs z, rm_f B c = some (cur, segs, z) → (∃ cur', cur = y :: cur' ∧ rm_f B c' = some (cur', segs, z)) ∨ (cur = [] ∧ ∃ cur' segs', segs = (y :: cur') :: segs' ∧ rm_f B c' = some (cur', segs', z)) := by
  obtain ⟨a, i⟩ := c
  unfold nb_f at h
  dsimp only at h
  by_cases q : i = 0
  · rw [if_pos q] at h
    subst q
    by_cases q2 : a + 1 < B.1 ∧ 1 ≤ B.2 a
    · rw [if_pos q2] at h
      obtain ⟨e1, e2⟩ := Prod.mk.inj (Option.some.inj h)
      subst e1 e2
      have hv : ¬ B.2 a = 0 := by omega
      have hpos : a + 2 + (B.2 a - 1) = a + 1 + B.2 a := by omega
      have hsg : sg_b B (a + 1) (B.2 a) = B.2 (a + 1) :: sg_b B (a + 2) (B.2 a - 1) := by
        have := sgb_succ (B := B) (a := a + 1) (v := B.2 a - 1)
        rw [show B.2 a - 1 + 1 = B.2 a by omega] at this
        exact this
      unfold rm_f
      dsimp only
      rw [Nat.add_zero, bks_s hB (by omega) hv, hpos]
      cases h3 : bk_s B (a + 1 + B.2 a) with
      | none => exact ⟨fun _ => rfl, fun cur segs z e => by cases e⟩
      | some p =>
        refine ⟨(fun e => nomatch e), fun cur segs z e => ?_⟩
        have := Option.some.inj e
        rw [Prod.mk.injEq, Prod.mk.injEq] at this
        refine Or.inr ⟨this.1.symm, _, _, this.2.1.symm.trans (by rw [hsg]), ?_⟩
        rw [← this.2.2]; rfl
    · rw [if_neg q2] at h; cases h
  · rw [if_neg q] at h
    by_cases q2 : a < B.1
    · rw [if_pos q2] at h
      obtain ⟨e1, e2⟩ := Prod.mk.inj (Option.some.inj h)
      subst e1 e2
      have hpos : a + 1 + (i - 1) = a + i := by omega
      have hsg : sg_b B a i = B.2 a :: sg_b B (a + 1) (i - 1) := by
        have := sgb_succ (B := B) (a := a) (v := i - 1)
        rw [show i - 1 + 1 = i by omega] at this
        exact this
      unfold rm_f
      dsimp only
      rw [hpos, hsg]
      cases h3 : bk_s B (a + i) with
      | none => exact ⟨fun _ => rfl, fun cur segs z e => by cases e⟩
      | some p =>
        refine ⟨(fun e => nomatch e), fun cur segs z e => ?_⟩
        have := Option.some.inj e
        rw [Prod.mk.injEq, Prod.mk.injEq] at this
        refine Or.inl ⟨_, this.1.symm, ?_⟩
        rw [← this.2.1, ← this.2.2]; rfl
    · rw [if_neg q2] at h; cases h
/-- no byte more: nothing is left -/
theorem rm_end (hB : B.1 ≤ 800) {cur : List Nat} (h : nb_f B c = none) (hr : rm_f B c = some (cur, segs, z)) : cur = [] ∧ segs = [] := by
  obtain ⟨a, i⟩ := c
  unfold nb_f at h
  dsimp only at h
  unfold rm_f at hr
  dsimp only at hr
  by_cases q : i = 0
  · rw [if_pos q] at h
    subst q
    rw [Nat.add_zero] at hr
    by_cases q1 : a < B.1
    · by_cases q2 : B.2 a = 0
      · rw [bks_0 q1 q2] at hr
        have := Option.some.inj hr
        rw [Prod.mk.injEq, Prod.mk.injEq] at this
        exact ⟨this.1.symm, this.2.1.symm⟩
      · by_cases q3 : a + 1 < B.1
        · rw [if_pos ⟨q3, by omega⟩] at h; cases h
        · rw [bks_s hB q1 q2, bks_n (by omega)] at hr; cases hr
    · rw [bks_n q1] at hr; cases hr
  · rw [if_neg q] at h
    by_cases q2 : a < B.1
    · rw [if_pos q2] at h; cases h
    · rw [bks_n (by omega)] at hr; cases hr
/-- the class's place in the data against the stream's -/
def at_D (B : rd_B) (D : List Nat) (ls z n : Nat) (c : rd_c) : Prop := ∃ cur segs, rm_f B c = some (cur, segs, z) ∧ D.drop n = cur ++ segs.flatten ∧ n ≤ D.length ∧ ((n = 0 ∧ cur = [] ∧ ls = ls_f segs) ∨ ∃ b0, b0 < n ∧ ls = if segs = [] then b0 else n + cur.length + ls_f segs)
theorem lsf_cons {x : List Nat} : ls_f (x :: segs) = if segs = [] then 0 else x.length + ls_f segs := by
  match segs with
  | [] => rfl
  | _ :: _ => rfl
theorem atD_0 (hB : B.1 ≤ 800) (h : bk_s B a = some (segs, z)) : at_D B segs.flatten (ls_f segs) z 0 (a, 0) := by
  refine ⟨[], segs, ?_, rfl, Nat.zero_le _, Or.inl ⟨rfl, rfl, rfl⟩⟩
  unfold rm_f
  dsimp only
  rw [Nat.add_zero, h]
  rfl
theorem atD_step (hB : B.1 ≤ 800) {ls : Nat} (h : at_D B D ls z n c) : (nb_f B c = none ∧ n = D.length) ∨ ∃ y c', nb_f B c = some (y, c') ∧ D[n]? = some y ∧ at_D B D ls z (n + 1) c' := by
  obtain ⟨cur, segs, h1, h2, h3, h4⟩ := h
  cases hn : nb_f B c with
  | none =>
    obtain ⟨e1, e2⟩ := rm_end hB hn h1
    rw [e1, e2] at h2
    have := List.drop_eq_nil_iff.mp h2
    exact Or.inl ⟨rfl, by omega⟩
  | some p =>
    obtain ⟨y, c'⟩ := p
    right
    refine ⟨y, c', rfl, ?_⟩
    have dr : ∀ l, D.drop n = y :: l → D[n]? = some y ∧ D.drop (n + 1) = l ∧ n + 1 ≤ D.length := fun l hl => by
      have h0 : (D.drop n)[0]? = some y := by rw [hl]; rfl
      rw [List.getElem?_drop, Nat.add_zero] at h0
      have hlt := (List.getElem?_eq_some_iff.mp h0).1
      refine ⟨h0, ?_, hlt⟩
      rw [← List.drop_drop, hl]; rfl
    rcases (rm_step hB hn).2 cur segs z h1 with ⟨cur', e1, e2⟩ | ⟨e0, cur', segs', e1, e2⟩
    · rw [e1] at h2
      obtain ⟨d1, d2, d3⟩ := dr _ h2
      refine ⟨d1, cur', segs, e2, d2, d3, Or.inr ?_⟩
      rcases h4 with ⟨f1, f2, f3⟩ | ⟨b0, f1, f2⟩
      · rw [f2] at e1; cases e1
      · refine ⟨b0, by omega, ?_⟩
        rw [f2, e1, List.length_cons]
        split
        · rfl
        · omega
    · rw [e0, e1] at h2
      obtain ⟨d1, d2, d3⟩ := dr _ h2
      refine ⟨d1, cur', segs', e2, d2, d3, Or.inr ⟨n, by omega, ?_⟩⟩
      have hls : ls = n + ls_f segs := by
        rcases h4 with ⟨f1, f2, f3⟩ | ⟨b0, f1, f2⟩
        · rw [f3]; omega
        · rw [f2, e0, e1, if_neg (by simp)]; rfl
      rw [hls, e1, lsf_cons, List.length_cons]
      split
      · rfl
      · omega
/-- the end comes in the last block -/
theorem atD_fin (hB : B.1 ≤ 800) {ls : Nat} (h : at_D B D ls z n c) (hn : 1 ≤ n) : (ls < n ↔ fi_c B c) ∧ (fi_c B c → z = c.1 + c.2 + 1) := by
  obtain ⟨cur, segs, h1, h2, h3, h4⟩ := h
  rcases h4 with ⟨f1, f2, f3⟩ | ⟨b0, f1, f2⟩
  · omega
  · by_cases q : segs = []
    · rw [q] at h1 f2
      rw [if_pos rfl] at f2
      obtain ⟨g1, g2⟩ := rm_fin' hB h1
      exact ⟨⟨fun _ => g1, fun _ => by omega⟩, fun _ => g2⟩
    · rw [if_neg q] at f2
      have nf : ¬ fi_c B c := fun hf => by
        obtain ⟨cu, e⟩ := rm_fin hB hf
        rw [e] at h1
        have := Option.some.inj h1
        rw [Prod.mk.injEq, Prod.mk.injEq] at this
        exact q this.2.1.symm
      exact ⟨⟨fun z => by omega, fun hf => absurd hf nf⟩, fun hf => absurd hf nf⟩
/-- one bit, and a code at once -/
def t1_f (B : rd_B) (st : rd_S) : Option (Nat × rd_S) := if st.2.2 = 0 then (nb_f B st.1).map fun r => (r.1 % 2, (r.2, r.1 / 2, 7)) else some (st.2.1 % 2, (st.1, st.2.1 / 2, st.2.2 - 1))
def tc_f (B : rd_B) (w : Nat) (st : rd_S) : Option (Nat × rd_S) := if w ≤ st.2.2 then some (st.2.1 % 2 ^ w, (st.1, st.2.1 / 2 ^ w, st.2.2 - w)) else (nb_f B st.1).map fun r => ((st.2.1 + r.1 * 2 ^ st.2.2) % 2 ^ w, (r.2, (st.2.1 + r.1 * 2 ^ st.2.2) / 2 ^ w, st.2.2 + 8 - w))
theorem tc_0 (h : st.2.2 = st.2.2) : tc_f B 0 st = some (0, st) := by
  unfold tc_f
  rw [if_pos (Nat.zero_le _), Nat.pow_zero, Nat.mod_one, Nat.div_one, Nat.sub_zero]
theorem mod_s (v w : Nat) : v % 2 ^ (w + 1) = v % 2 + 2 * (v / 2 % 2 ^ w) := by
  rw [Nat.pow_succ, Nat.mul_comm (2 ^ w) 2, Nat.mod_mul]
theorem div_s (v w : Nat) : v / 2 ^ (w + 1) = v / 2 / 2 ^ w := by
  rw [Nat.pow_succ, Nat.mul_comm (2 ^ w) 2, Nat.div_div_eq_div_mul]
/-- the first bit of a code -/
theorem tc_succ (hw : w ≤ 6) (hv : st.2.1 < 2 ^ st.2.2) : tc_f B (w + 1) st = match t1_f B st with
    | none => none
    | some (b, s1) => (tc_f B w s1).map fun r => (b + 2 * r.1, r.2) := by
  obtain ⟨c, v, k⟩ := st
  dsimp only at hv
  unfold tc_f t1_f
  dsimp only
  by_cases q : k = 0
  · subst q
    rw [if_neg (by omega), if_pos rfl]
    have v0 : v = 0 := by rw [Nat.pow_zero] at hv; omega
    subst v0
    cases nb_f B c with
    | none => rfl
    | some p =>
      show some _ = Option.map _ (if _ then _ else _)
      dsimp only
      rw [if_pos (show w ≤ 7 by omega), Nat.pow_zero, Nat.mul_one, Nat.zero_add, mod_s, div_s]
      show _ = some (_, _)
      rw [show 0 + 8 - (w + 1) = 7 - w by omega]
  · rw [if_neg q]
    dsimp only
    by_cases q2 : w + 1 ≤ k
    · rw [if_pos q2, if_pos (show w ≤ k - 1 by omega), mod_s, div_s]
      show _ = some (_, _)
      rw [show k - (w + 1) = k - 1 - w by omega]
    · rw [if_neg q2, if_neg (show ¬ w ≤ k - 1 by omega)]
      cases nb_f B c with
      | none => rfl
      | some p =>
        show some (_, _) = some (_, _)
        have hk : 2 ^ k = 2 * 2 ^ (k - 1) := by
          have : 2 ^ (k - 1 + 1) = 2 ^ (k - 1) * 2 := Nat.pow_succ 2 (k - 1)
          rw [show k - 1 + 1 = k by omega] at this
          omega
        have e1 : (v + p.1 * 2 ^ k) % 2 = v % 2 := by
          rw [hk, ← Nat.mul_assoc, Nat.mul_comm p.1 2, Nat.mul_assoc, Nat.add_mul_mod_self_left]
        have e2 : (v + p.1 * 2 ^ k) / 2 = v / 2 + p.1 * 2 ^ (k - 1) := by
          rw [hk, ← Nat.mul_assoc, Nat.mul_comm p.1 2, Nat.mul_assoc, Nat.add_mul_div_left _ _ (by decide)]
        rw [mod_s, div_s, e1, e2, show k + 8 - (w + 1) = k - 1 + 8 - w by omega]
end
