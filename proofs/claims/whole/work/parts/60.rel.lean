/-! THE RELATION between the class's places and the reference's, in the one memory -/
abbrev rl_M : Type := Nat → Nat → Int32
abbrev rl_A : Type := Nat → Int32
/-- how many colours a palette of so many bits has -/
def rl_cnt (b : Int32) : Int32 := if b = 0 then 0 else 1 <<< (b &&& 31)
/-- the palette with number g (0: the reel's, f + 1: frame f's), which lies at offset o -/
def rb_pal (c : rl_M) (hs cs : rl_A) (o g : Nat) : Prop :=
  (0 ≤ (hs (9 * g + 4)).toInt ∧ (hs (9 * g + 4)).toInt ≤ 4) ∧ c o 1 = rl_cnt (hs (9 * g + 4)) ∧
  ∀ k, k < 16 → c (o + 1) k = cs (16 * g + k) ∧ (0 ≤ (cs (16 * g + k)).toInt ∧ (cs (16 * g + k)).toInt < 16777216) ∧ ((rl_cnt (hs (9 * g + 4))).toInt ≤ k → cs (16 * g + k) = 0)
/-- how many colours the frame's pixels may number -/
def rb_n (hs : rl_A) (f : Nat) : Int32 := if hs (9 * (f + 1) + 4) = 0 then rl_cnt (hs 4) else rl_cnt (hs (9 * (f + 1) + 4))
def rb_px (c : rl_M) (hs ps : rl_A) (f : Nat) : Prop := ∀ y : Nat, y < 8 → ∀ z : Nat, z < 8 →
  ((z : Int) < (hs (9 * (f + 1) + 2)).toInt ∧ (y : Int) < (hs (9 * (f + 1) + 3)).toInt → c (4 + 4 * f + 1) (8 * y + z) = ps (64 * f + 8 * y + z) ∧ 0 ≤ (ps (64 * f + 8 * y + z)).toInt ∧ (ps (64 * f + 8 * y + z)).toInt < (rb_n hs f).toInt) ∧
  (¬ ((z : Int) < (hs (9 * (f + 1) + 2)).toInt ∧ (y : Int) < (hs (9 * (f + 1) + 3)).toInt) → c (4 + 4 * f + 1) (8 * y + z) = 0)
def rb_F (c : rl_M) (hs cs ps : rl_A) (f : Nat) : Prop :=
  (∀ k, k < 4 → c (4 + 4 * f) (2 + k) = hs (9 * (f + 1) + k)) ∧ (∀ k, k < 4 → c (4 + 4 * f) (6 + k) = hs (9 * (f + 1) + 5 + k)) ∧
  (0 ≤ (hs (9 * (f + 1))).toInt ∧ (hs (9 * (f + 1))).toInt ≤ 7) ∧ (0 ≤ (hs (9 * (f + 1) + 1)).toInt ∧ (hs (9 * (f + 1) + 1)).toInt ≤ 7) ∧
  (1 ≤ (hs (9 * (f + 1) + 2)).toInt ∧ (hs (9 * (f + 1) + 2)).toInt ≤ 8) ∧ (1 ≤ (hs (9 * (f + 1) + 3)).toInt ∧ (hs (9 * (f + 1) + 3)).toInt ≤ 8) ∧
  (0 ≤ (hs (9 * (f + 1) + 5)).toInt ∧ (hs (9 * (f + 1) + 5)).toInt ≤ 3) ∧ (0 ≤ (hs (9 * (f + 1) + 6)).toInt ∧ (hs (9 * (f + 1) + 6)).toInt ≤ 255) ∧
  (-1 ≤ (hs (9 * (f + 1) + 7)).toInt ∧ (hs (9 * (f + 1) + 7)).toInt < (rb_n hs f).toInt) ∧ (hs (9 * (f + 1) + 8) = 0 ∨ hs (9 * (f + 1) + 8) = 1) ∧
  rb_pal c hs cs (4 + 4 * f + 2) (f + 1) ∧ rb_px c hs ps f
def rb_R (c : rl_M) (n : Int32) (hs cs ps : rl_A) : Prop :=
  (0 ≤ n.toInt ∧ n.toInt ≤ 4) ∧ c 0 4 = n ∧ c 0 2 = hs 2 ∧ c 0 3 = hs 3 ∧ (1 ≤ (hs 2).toInt ∧ (hs 2).toInt ≤ 8) ∧ (1 ≤ (hs 3).toInt ∧ (hs 3).toInt ≤ 8) ∧
  (hs 0 = 0 ∧ hs 1 = 0 ∧ hs 5 = 0 ∧ hs 6 = 0 ∧ hs 7 = 0 ∧ hs 8 = 0) ∧ 1 ≤ (hs 4).toInt ∧ rb_pal c hs cs 1 0 ∧ ∀ f : Nat, (f : Int) < n.toInt → rb_F c hs cs ps f
def rb_B (m : Int32) (b : rl_A) (n : Int32) (d : rl_A) : Prop := m = n ∧ (0 ≤ n.toInt ∧ n.toInt ≤ 800) ∧ ∀ k : Nat, (k : Int) < n.toInt → b k = d k ∧ 0 ≤ (d k).toInt ∧ (d k).toInt ≤ 255
def rb_P (b d : rl_A) : Prop := ∀ k, k < 64 → b k = d k ∧ 0 ≤ (d k).toInt ∧ (d k).toInt < 16777216
def rb_C (b d : rl_A) : Prop := ∀ k, k < 64 → b k = d k
/-- a reel's twenty places -/
def rl_v (r : Nat) (I : rl_M) : rl_M := fun o => if o < 20 then I (r + o) else fun _ => 0
/-- the class's three constant rows -/
def st_w (a k : Nat) : Int32 := mc_nth (mc_nth [[], [], [0, 4, 2, 1], [8, 8, 4, 2], [-24, 8, 24, -8]] a []) k 0
def rb_K (I : rl_M) : Prop := (∀ p, is_P p → 0 ≤ (I p 1).toInt ∧ (I p 1).toInt ≤ 16) ∧ (∀ a, 2 ≤ a → a ≤ 4 → I a = st_w a) ∧ ∀ k, k ∈ [0, 1, 5, 6, 7, 8] → I 88 k = 0
def rl_I (r : Nat) (I : rl_M) : Prop := is_R r ∧ rb_R (rl_v r I) (I 84 1) (I 85) (I 86) (I 87) ∧ rb_B (I 54 1) (I 55) (I 84 10) (I 91) ∧ rb_P (I 75) (I 92) ∧ rb_C (I 12) (I 93) ∧ rb_K I
section
variable {I : rl_M} {a b k j r o : Nat} {v : Int32}
theorem rl_v0 (I : rl_M) (r o k : Nat) (h : o < 20) : rl_v r I o k = I (r + o) k := by
  unfold rl_v
  rw [if_pos h]
theorem up_ne (h : ¬ b = a) : mc_up I a k v b = I b := by
  funext j
  unfold mc_up
  rw [if_neg (fun q => h q.1)]
theorem up_at : mc_up I a k v a k = v := by
  unfold mc_up
  rw [if_pos ⟨rfl, rfl⟩]
theorem up_nk (h : ¬ j = k) : mc_up I a k v b j = I b j := by
  unfold mc_up
  rw [if_neg (fun q => h q.2)]
theorem up_v (h : a < r ∨ r + 20 ≤ a) : rl_v r (mc_up I a k v) = rl_v r I := by
  funext o
  unfold rl_v
  split
  · exact up_ne (by omega)
  · rfl
theorem up_vo (h : o < 20) : rl_v r (mc_up I (r + o) k v) = mc_up (rl_v r I) o k v := by
  funext q j
  by_cases hq : q < 20
  · rw [rl_v0 _ _ _ _ hq]
    by_cases h1 : q = o ∧ j = k
    · rw [h1.1, h1.2, up_at, up_at]
    · have e1 : mc_up (rl_v r I) o k v q j = rl_v r I q j := by
        unfold mc_up
        rw [if_neg h1]
      have e2 : mc_up I (r + o) k v (r + q) j = I (r + q) j := by
        unfold mc_up
        rw [if_neg (fun z => h1 ⟨by omega, z.2⟩)]
      rw [e1, e2, rl_v0 _ _ _ _ hq]
  · have e1 : ∀ I' : rl_M, rl_v r I' q j = 0 := fun I' => by
      unfold rl_v
      rw [if_neg hq]
    have e2 : mc_up (rl_v r I) o k v q j = rl_v r I q j := by
      unfold mc_up
      rw [if_neg (fun z => by omega)]
    rw [e2, e1, e1]
theorem is_Rb (h : is_R r) : r = 14 ∨ r = 34 := by
  rcases List.mem_cons.mp h with rfl | h
  · exact Or.inl rfl
  · exact Or.inr (List.mem_singleton.mp h)
theorem rb_K.up (h : rb_K I) (ha : ¬ is_P a ∨ ¬ k = 1) (hb : 5 ≤ a ∧ ¬ a = 88 := by omega) : rb_K (mc_up I a k v) := by
  refine ⟨fun p hp => ?_, fun q h1 h2 => by rw [up_ne (by omega)]; exact h.2.1 q h1 h2, fun q h1 => by rw [up_ne (by omega)]; exact h.2.2 q h1⟩
  have e : mc_up I a k v p 1 = I p 1 := by
    rcases ha with q | q
    · rw [up_ne (fun z => q (by rw [← z]; exact hp))]
    · rw [up_nk (fun z => q z.symm)]
  rw [e]
  exact h.1 p hp
end
/-- the law goes on -/
def lw_nx (N : Nat) (i : Int32) (u : mc_U) (Q : mc_Q) : Prop := ∀ (r : Nat) (I : rl_M) (J : Nat → Nat → Int64) (n : Nat) (w : mc_U) (x5 x6 : Value), rl_I r I → w.1 ≤ u.1 + 3 → w.2 ≤ u.2 + 18 →
  mc_WP (42, 43, [.ref 1, .ref 10, .ref 84, .ref 105, .int (i + 6), x5, x6], [], (I, J, rf_w r, sh_w N, n), w) Q
