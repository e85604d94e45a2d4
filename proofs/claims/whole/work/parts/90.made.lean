/-! what is made: shapes come in their order; the references that are set, newest first -/
def mk_I (B : rl_M) (lo n : Nat) : rl_M := fun a => if lo ≤ a ∧ a < n then fun _ => 0 else B a
def mk_J (B : Nat → Nat → Int64) (lo n : Nat) : Nat → Nat → Int64 := fun a => if lo ≤ a ∧ a < n then fun _ => 0 else B a
def mk_P : List (Nat × Nat × Nat) → Nat → Nat → Nat
  | [] => fun _ _ => 0
  | (a, y, v) :: l => mc_up (mk_P l) a y v
def mk_S (N n : Nat) : Nat → Nat × Nat := fun a => if a < n then sh_w N a else (0, 0)
def mk_M (B : rl_M) (B' : Nat → Nat → Int64) (lo N : Nat) (l : List (Nat × Nat × Nat)) (n : Nat) : mc_M := (mk_I B lo n, mk_J B' lo n, mk_P l, mk_S N n, n)
def mk_b (l : List (Nat × Nat × Nat)) (n : Nat) : Prop := ∀ e ∈ l, e.1 < n
section
variable {B : rl_M} {B' : Nat → Nat → Int64} {lo N n p a y v : Nat} {l : List (Nat × Nat × Nat)} {Q : mc_Q} {t : Nat × Nat}
theorem mk_b.cons (h : mk_b l n) (ha : a < n) : mk_b ((a, y, v) :: l) n := by
  intro e he
  rcases List.mem_cons.mp he with rfl | he
  · exact ha
  · exact h e he
theorem mk_b.up {m : Nat} (h : mk_b l n) (hm : n ≤ m) : mk_b l m := fun e he => Nat.lt_of_lt_of_le (h e he) hm
theorem mk_Pc : mc_up (mk_P l) a y v = mk_P ((a, y, v) :: l) := rfl
theorem mk_Pn (h : ¬ p = a) : mk_P ((a, y, v) :: l) p = mk_P l p := by
  funext j
  show mc_up (mk_P l) a y v p j = _
  unfold mc_up
  rw [if_neg (fun q => h q.1)]
theorem mk_Py {j : Nat} (h : ¬ j = y) : mk_P ((a, y, v) :: l) p j = mk_P l p j := by
  show mc_up (mk_P l) a y v p j = _
  unfold mc_up
  rw [if_neg (fun q => h q.2)]
theorem mk_Pa : mk_P ((a, y, v) :: l) a y = v := by
  show mc_up (mk_P l) a y v a y = _
  unfold mc_up
  rw [if_pos ⟨rfl, rfl⟩]
theorem mk_P0 : ∀ {l : List (Nat × Nat × Nat)}, mk_b l n → n ≤ p → mk_P l p = fun _ => 0
  | [], _, _ => rfl
  | (a, y, v) :: l, h, hp => by
    have h1 : a < n := h (a, y, v) List.mem_cons_self
    rw [mk_Pn (by omega)]
    exact mk_P0 (fun e he => h e (List.mem_cons_of_mem _ he)) hp
theorem mk_Sa (h : a < n) : mk_S N n a = sh_w N a := by
  unfold mk_S
  rw [if_pos h]
theorem mk_Ss (ht : sh_w N n = t) : mc_row (mk_S N n) n t = mk_S N (n + 1) := by
  funext b
  unfold mc_row mk_S
  by_cases h : b = n
  · rw [if_pos h, if_pos (by omega), h, ht]
  · rw [if_neg h]
    by_cases h2 : b < n
    · rw [if_pos h2, if_pos (by omega)]
    · rw [if_neg h2, if_neg (by omega)]
theorem mk_Is (h : lo ≤ n) : mc_row (mk_I B lo n) n (fun _ => 0) = mk_I B lo (n + 1) := by
  funext b
  unfold mc_row mk_I
  by_cases h1 : b = n
  · rw [if_pos h1, if_pos (by omega)]
  · rw [if_neg h1]
    by_cases h2 : lo ≤ b ∧ b < n
    · rw [if_pos h2, if_pos (by omega)]
    · rw [if_neg h2, if_neg (by omega)]
theorem mk_Js (h : lo ≤ n) : mc_row (mk_J B' lo n) n (fun _ => 0) = mk_J B' lo (n + 1) := by
  funext b
  unfold mc_row mk_J
  by_cases h1 : b = n
  · rw [if_pos h1, if_pos (by omega)]
  · rw [if_neg h1]
    by_cases h2 : lo ≤ b ∧ b < n
    · rw [if_pos h2, if_pos (by omega)]
    · rw [if_neg h2, if_neg (by omega)]
theorem mk_Ps (hl : mk_b l n) : mc_row (mk_P l) n (fun _ => 0) = mk_P l := by
  funext b
  unfold mc_row
  by_cases h : b = n
  · rw [if_pos h, h, mk_P0 hl (Nat.le_refl _)]
  · rw [if_neg h]
theorem mk_new (h : lo ≤ n) (hl : mk_b l n) (ht : sh_w N n = t) : (mc_row (mk_I B lo n) n (fun _ => 0), mc_row (mk_J B' lo n) n (fun _ => 0), mc_row (mk_P l) n (fun _ => 0), mc_row (mk_S N n) n t, n + 1) = mk_M B B' lo N l (n + 1) := by
  rw [mk_Is h, mk_Js h, mk_Ps hl, mk_Ss ht]
  rfl
theorem mk_newp (h : lo ≤ n) (hl : mk_b l n) (ht : sh_w N n = t) : (mc_row (mk_I B lo n) n (fun _ => 0), mc_row (mk_J B' lo n) n (fun _ => 0), mc_up (mc_row (mk_P l) n (fun _ => 0)) a y v, mc_row (mk_S N n) n t, n + 1) = mk_M B B' lo N ((a, y, v) :: l) (n + 1) := by
  rw [mk_Is h, mk_Js h, mk_Ps hl, mk_Ss ht]
  rfl
theorem mk_Sr (h : a < n) (ht : sh_w N n = t) {c : Nat × Nat} (hc : sh_w N a = c) : mc_row (mk_S N n) n t a = c := by
  rw [mk_Ss ht, mk_Sa (by omega)]
  exact hc
/-- Palette -/
theorem cp_24 (h10 : 10 ≤ n) (h : lo ≤ n) (hp : p < n) (hs : sh_w N p = (1, 6)) (ha : sh_w N n = (2, 16)) (hl : mk_b l n) (hq : Q (.inl none) (mk_M B B' lo N ((p, 0, n) :: l) (n + 1))) : mc_WP (mc_en 24 [.ref p] (mk_M B B' lo N l n)) Q := by
  refine bg_24_0 ⟨h10, ⟨mk_Sr hp ha hs, by omega⟩, ?_⟩
  rw [mk_newp h hl ha]
  exact hq
/-- ByteRow -/
theorem cp_20 {x1 : Int32} (h10 : 10 ≤ n) (h : lo ≤ n) (hp : p < n) (hx : 0 ≤ x1.toInt ∧ x1.toInt ≤ 800) (hs : sh_w N p = (1, 1)) (ha : sh_w N n = (2, x1.toNatClampNeg)) (hl : mk_b l n) (hq : Q (.inl none) (mk_M B B' lo N ((p, 0, n) :: l) (n + 1))) : mc_WP (mc_en 20 [.ref p, .int x1] (mk_M B B' lo N l n)) Q := by
  have t1 := i3_tn x1
  refine bg_20_0 ⟨⟨h10, by rw [Int32.lt_iff_toInt_lt, i3_0]; omega, by omega, by omega⟩, ⟨mk_Sr hp ha hs, by omega⟩, ?_⟩
  rw [mk_newp h hl ha]
  exact hq
/-- Canvas -/
theorem cp_21 (h10 : 10 ≤ n) (h : lo ≤ n) (hp : p < n) (hs : sh_w N p = (1, 2)) (ha : sh_w N n = (2, 64) ∧ sh_w N (n + 1) = (2, 64)) (hl : mk_b l n) (hq : Q (.inl none) (mk_M B B' lo N ((p, 1, n + 1) :: (p, 0, n) :: l) (n + 2))) : mc_WP (mc_en 21 [.ref p] (mk_M B B' lo N l n)) Q := by
  refine bg_21_0 ⟨h10, ⟨mk_Sr hp ha.1 hs, by omega⟩, ?_⟩
  rw [mk_newp h hl ha.1]
  refine bg_21_12 ⟨by omega, ⟨mk_Sr (by omega) ha.2 hs, by omega⟩, ?_⟩
  rw [mk_newp (by omega) ((hl.up (by omega)).cons (by omega)) ha.2]
  exact hq
/-- Strings -/
theorem cp_28 (h10 : 10 ≤ n) (h : lo ≤ n) (hp : p < n) (hs : sh_w N p = (1, 10)) (ha : ∀ k, k < 4 → sh_w N (n + k) = (2, 64)) (hl : mk_b l n) (hq : Q (.inl none) (mk_M B B' lo N ((p, 3, n + 3) :: (p, 2, n + 2) :: (p, 1, n + 1) :: (p, 0, n) :: l) (n + 4))) : mc_WP (mc_en 28 [.ref p] (mk_M B B' lo N l n)) Q := by
  refine bg_28_0 ⟨h10, ⟨mk_Sr hp (ha 0 (by decide)) hs, by omega⟩, ?_⟩
  rw [mk_newp h hl (ha 0 (by decide))]
  refine bg_28_12 ⟨by omega, ⟨mk_Sr (by omega) (ha 1 (by decide)) hs, by omega⟩, ?_⟩
  rw [mk_newp (by omega) ((hl.up (by omega)).cons (by omega)) (ha 1 (by decide))]
  refine bg_28_20 ⟨by omega, ⟨mk_Sr (by omega) (ha 2 (by decide)) hs, by omega⟩, ?_⟩
  rw [mk_newp (by omega) (((hl.up (by omega)).cons (by omega)).cons (by omega)) (ha 2 (by decide))]
  refine bg_28_28 ⟨by omega, ⟨mk_Sr (by omega) (ha 3 (by decide)) hs, by omega⟩, ?_⟩
  rw [mk_newp (by omega) ((((hl.up (by omega)).cons (by omega)).cons (by omega)).cons (by omega)) (ha 3 (by decide))]
  exact hq
/-- Frame -/
theorem cp_22 (h10 : 10 ≤ n) (h : lo ≤ n) (hp : p < n) (hs : sh_w N p = (1, 4)) (ha : sh_w N n = (2, 64) ∧ sh_w N (n + 1) = (1, 6) ∧ sh_w N (n + 2) = (2, 16)) (hl : mk_b l n) (hq : Q (.inl none) (mk_M B B' lo N ((p, 1, n + 1) :: (n + 1, 0, n + 2) :: (p, 0, n) :: l) (n + 3))) : mc_WP (mc_en 22 [.ref p] (mk_M B B' lo N l n)) Q := by
  refine bg_22_0 ⟨h10, ⟨mk_Sr hp ha.1 hs, by omega⟩, by omega, mc_inl ?_⟩
  rw [mk_Is h, mk_Js h, mk_Ps hl, mk_Ss ha.1, mk_Pc, mk_new (by omega) ((hl.up (by omega)).cons (by omega)) ha.2.1]
  refine cp_24 (by omega) (by omega) (by omega) ha.2.1 ha.2.2 ((hl.up (by omega)).cons (by omega)) ?_
  refine bg_22_20 ⟨⟨by rw [mk_Sa (by omega)]; exact hs, by omega⟩, ?_⟩
  exact hq
/-- Cursor -/
theorem cp_133 (hp : p < n) (hs : sh_w N p = (1, 3)) (ha : ¬ a = 0) (hq : Q (.inl none) (mk_M B B' lo N ((p, 0, a) :: l) n)) : mc_WP (mc_en 133 [.ref p, .ref a] (mk_M B B' lo N l n)) Q :=
  bg_133_0 ⟨⟨by rw [mk_Sa hp]; exact hs, ha⟩, hq⟩
/-- Reel -/
def mk_f (p : Nat) (l : List (Nat × Nat × Nat)) : Nat → List (Nat × Nat × Nat)
  | 0 => (p, 1, p + 3) :: (p, 0, p + 1) :: (p + 1, 0, p + 2) :: l
  | f + 1 => (p + 3, f, p + 4 + 4 * f) :: (p + 4 + 4 * f, 1, p + 4 + 4 * f + 1 + 1) :: (p + 4 + 4 * f + 1 + 1, 0, p + 4 + 4 * f + 1 + 2) :: (p + 4 + 4 * f, 0, p + 4 + 4 * f + 1) :: mk_f p l f
theorem mk_fb (hl : mk_b l (p + 1)) : ∀ f, mk_b (mk_f p l f) (p + 4 + 4 * f)
  | 0 => (((hl.up (by omega)).cons (by omega)).cons (by omega)).cons (by omega)
  | f + 1 => ((((mk_fb hl f).up (by omega)).cons (by omega)).cons (by omega)).cons (by omega) |>.cons (by omega)
theorem mk_f3 : ∀ f, mk_P (mk_f p l f) p 1 = p + 3
  | 0 => mk_Pa
  | f + 1 => by
    unfold mk_f
    rw [mk_Pn (by omega), mk_Pn (by omega), mk_Pn (by omega), mk_Pn (by omega)]
    exact mk_f3 f
theorem cp_27l (h10 : 10 ≤ p) (h : lo ≤ p) (hs : sh_w N p = (1, 9)) (h3 : sh_w N (p + 3) = (3, 4)) (hf : ∀ f, f < 4 → sh_w N (p + 4 + 4 * f) = (1, 4) ∧ sh_w N (p + 4 + 4 * f + 1) = (2, 64) ∧ sh_w N (p + 4 + 4 * f + 1 + 1) = (1, 6) ∧ sh_w N (p + 4 + 4 * f + 1 + 2) = (2, 16)) (hl : mk_b l (p + 1)) (hq : Q (.inl none) (mk_M B B' lo N (mk_f p l 4) (p + 20))) : ∀ m f : Nat, f + m = 4 → mc_WP (27, 25, [.ref p, .int (Int32.ofNat f)], [], mk_M B B' lo N (mk_f p l f) (p + 4 + 4 * f), (3 + 4 * f, 22 + 92 * f)) Q
  | 0, f, he => by
    have e : f = 4 := by omega
    subst e
    exact bg_27_25 ⟨fun _ => hq, fun q => absurd (by decide) q⟩
  | m + 1, f, he => by
    obtain ⟨s1, s2, s3, s4⟩ := hf f (by omega)
    have hb := mk_fb hl f
    refine bg_27_25 ⟨fun q => absurd q (by rw [Int32.le_iff_toInt_le, on_t (by omega), i3_4]; omega), fun _ => ⟨⟨by rw [mk_Sa (by omega)]; exact hs, by rw [mk_f3]; omega⟩, ⟨by omega, by show 3 + 4 * f + 1 ≤ 19; omega, by show 22 + 92 * f + 10 ≤ 390; omega⟩, by show 3 + 4 * f + 1 + 3 ≤ 19; omega, by show 22 + 92 * f + 10 + 82 ≤ 390; omega, mc_inl ?_⟩⟩
    rw [mk_new (by omega) hb s1]
    refine cp_22 (by omega) (by omega) (by omega) s1 ⟨s2, s3, s4⟩ (hb.up (by omega)) ?_
    rw [mk_f3]
    refine bg_27_42 ⟨⟨by rw [mk_Sa (by omega), h3], by rw [mk_Sa (by omega), h3, vp_iff, on_t (by omega)]; omega, by omega, by rw [mk_Sa (by omega)]; exact s1, by omega⟩, ?_⟩
    rw [on_1, on_n (by omega)]
    exact cp_27l h10 h hs h3 hf hl hq m (f + 1) (by omega)
theorem cp_27 (h10 : 10 ≤ p) (h : lo ≤ p) (hs : sh_w N p = (1, 9)) (h1 : sh_w N (p + 1) = (1, 6)) (h2 : sh_w N (p + 1 + 1) = (2, 16)) (h3 : sh_w N (p + 3) = (3, 4)) (hf : ∀ f, f < 4 → sh_w N (p + 4 + 4 * f) = (1, 4) ∧ sh_w N (p + 4 + 4 * f + 1) = (2, 64) ∧ sh_w N (p + 4 + 4 * f + 1 + 1) = (1, 6) ∧ sh_w N (p + 4 + 4 * f + 1 + 2) = (2, 16)) (hl : mk_b l (p + 1)) (hq : Q (.inl none) (mk_M B B' lo N (mk_f p l 4) (p + 20))) : mc_WP (mc_en 27 [.ref p] (mk_M B B' lo N l (p + 1))) Q := by
  refine bg_27_0 ⟨by omega, mc_inl ?_⟩
  rw [mk_new (by omega) hl h1]
  refine cp_24 (by omega) (by omega) (by omega) h1 h2 (hl.up (by omega)) ?_
  refine bg_27_12 ⟨⟨by rw [mk_Sa (by omega)]; exact hs, by omega⟩, by omega, ⟨mk_Sr (by omega) h3 hs, by omega⟩, ?_⟩
  rw [mk_Pc, mk_newp (by omega) (((hl.up (by omega)).cons (by omega)).cons (by omega)) h3]
  exact cp_27l h10 h hs h3 hf hl hq 4 0 (by omega)
/-- Packer -/
theorem cp_23 (h10 : 10 ≤ n) (h : lo ≤ n) (hp : p < n) (ha0 : ¬ a = 0) (hs : sh_w N p = (1, 5)) (h1 : sh_w N n = (1, 10)) (h2 : ∀ k, k < 4 → sh_w N (n + 1 + k) = (2, 64)) (h3 : sh_w N (n + 1 + 4) = (2, 64)) (h4 : sh_w N (n + 1 + 4 + 1) = (1, 1)) (h5 : sh_w N (n + 1 + 4 + 1 + 1) = (2, 64)) (hl : mk_b l n) (hq : Q (.inl none) (mk_M B B' lo N ((p, 3, a) :: (p, 2, n + 1 + 4 + 1) :: (n + 1 + 4 + 1, 0, n + 1 + 4 + 1 + 1) :: (p, 1, n + 1 + 4) :: (p, 0, n) :: (n, 3, n + 1 + 3) :: (n, 2, n + 1 + 2) :: (n, 1, n + 1 + 1) :: (n, 0, n + 1) :: l) (n + 1 + 4 + 1 + 1 + 1))) : mc_WP (mc_en 23 [.ref p, .ref a] (mk_M B B' lo N l n)) Q := by
  refine bg_23_0 ⟨h10, mc_inl ?_⟩
  rw [mk_new h hl h1]
  refine cp_28 (by omega) (by omega) (by omega) h1 h2 (hl.up (by omega)) ?_
  have b4 : mk_b ((n, 3, n + 1 + 3) :: (n, 2, n + 1 + 2) :: (n, 1, n + 1 + 1) :: (n, 0, n + 1) :: l) (n + 1 + 4) := ((((hl.up (by omega)).cons (by omega)).cons (by omega)).cons (by omega)).cons (by omega)
  refine bg_23_12 ⟨⟨by rw [mk_Sa (by omega)]; exact hs, by omega⟩, by omega, ⟨mk_Sr (by omega) h3 hs, by omega⟩, ?_⟩
  rw [mk_Pc, mk_newp (by omega) (b4.cons (by omega)) h3]
  have b6 := ((b4.up (m := n + 1 + 4 + 1) (by omega)).cons (a := p) (y := 0) (v := n) (by omega)).cons (a := p) (y := 1) (v := n + 1 + 4) (by omega)
  refine bg_23_23 ⟨by omega, mc_inl ?_⟩
  rw [mk_new (by omega) b6 h4]
  refine cp_20 (by omega) (by omega) (by omega) (by decide) h4 h5 (b6.up (by omega)) ?_
  refine bg_23_33 ⟨⟨by rw [mk_Sa (by omega)]; exact hs, by omega⟩, ⟨by rw [mk_Sa (by omega)]; exact hs, ha0⟩, ?_⟩
  exact hq
/-- Parser -/
theorem cp_25 (h10 : 10 ≤ n) (h : lo ≤ n) (hp : p < n) (ha0 : ¬ a = 0) (hs : sh_w N p = (1, 7)) (h1 : sh_w N n = (1, 1)) (h2 : sh_w N (n + 1) = (2, 800)) (h3 : sh_w N (n + 1 + 1) = (1, 10)) (h4 : ∀ k, k < 4 → sh_w N (n + 1 + 1 + 1 + k) = (2, 64)) (h5 : sh_w N (n + 1 + 1 + 1 + 4) = (2, 64)) (h6 : sh_w N (n + 1 + 1 + 1 + 4 + 1) = (1, 3)) (hl : mk_b l n)
    (hq : Q (.inl none) (mk_M B B' lo N ((p, 0, n + 1 + 1 + 1 + 4 + 1) :: (n + 1 + 1 + 1 + 4 + 1, 0, a) :: (p, 3, n + 1 + 1 + 1 + 4) :: (p, 2, n + 1 + 1) :: (n + 1 + 1, 3, n + 1 + 1 + 1 + 3) :: (n + 1 + 1, 2, n + 1 + 1 + 1 + 2) :: (n + 1 + 1, 1, n + 1 + 1 + 1 + 1) :: (n + 1 + 1, 0, n + 1 + 1 + 1) :: (p, 1, n) :: (n, 0, n + 1) :: l) (n + 1 + 1 + 1 + 4 + 1 + 1))) : mc_WP (mc_en 25 [.ref p, .ref a] (mk_M B B' lo N l n)) Q := by
  refine bg_25_0 ⟨h10, mc_inl ?_⟩
  rw [mk_new h hl h1]
  refine cp_20 (by omega) (by omega) (by omega) (by decide) h1 h2 (hl.up (by omega)) ?_
  have b2 := ((hl.up (m := n + 1 + 1) (by omega)).cons (a := n) (y := 0) (v := n + 1) (by omega)).cons (a := p) (y := 1) (v := n) (by omega)
  refine bg_25_15 ⟨⟨by rw [mk_Sa (by omega)]; exact hs, by omega⟩, by omega, mc_inl ?_⟩
  rw [mk_Pc, mk_new (by omega) b2 h3]
  refine cp_28 (by omega) (by omega) (by omega) h3 h4 (b2.up (by omega)) ?_
  have b6 := (((((b2.up (m := n + 1 + 1 + 1 + 4) (by omega)).cons (a := n + 1 + 1) (y := 0) (v := n + 1 + 1 + 1) (by omega)).cons (a := n + 1 + 1) (y := 1) (v := n + 1 + 1 + 1 + 1) (by omega)).cons (a := n + 1 + 1) (y := 2) (v := n + 1 + 1 + 1 + 2) (by omega)).cons (a := n + 1 + 1) (y := 3) (v := n + 1 + 1 + 1 + 3) (by omega)).cons (a := p) (y := 2) (v := n + 1 + 1) (by omega)
  refine bg_25_26 ⟨⟨by rw [mk_Sa (by omega)]; exact hs, by omega⟩, by omega, ⟨mk_Sr (by omega) h5 hs, by omega⟩, ?_⟩
  rw [mk_Pc, mk_newp (by omega) b6 h5]
  have b7 := (b6.up (m := n + 1 + 1 + 1 + 4 + 1) (by omega)).cons (a := p) (y := 3) (v := n + 1 + 1 + 1 + 4) (by omega)
  refine bg_25_37 ⟨by omega, mc_inl ?_⟩
  rw [mk_new (by omega) b7 h6]
  refine cp_133 (by omega) h6 ha0 ?_
  refine bg_25_46 ⟨⟨by rw [mk_Sa (by omega)]; exact hs, by omega⟩, ?_⟩
  exact hq
end
