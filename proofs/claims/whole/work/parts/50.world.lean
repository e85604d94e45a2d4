/-! THE WORLD: what lies where once all is made; the reel in use is r (14 or 34), the script has N ints -/
def sh_l : List (Nat × Nat) := [(0, 0), (0, 0), (2, 4), (2, 4), (2, 4), (0, 0), (0, 0), (0, 0), (0, 0), (0, 0), (1, 0), (1, 2), (2, 64), (2, 64),
  (1, 9), (1, 6), (2, 16), (3, 4), (1, 4), (2, 64), (1, 6), (2, 16), (1, 4), (2, 64), (1, 6), (2, 16), (1, 4), (2, 64), (1, 6), (2, 16), (1, 4), (2, 64), (1, 6), (2, 16),
  (1, 9), (1, 6), (2, 16), (3, 4), (1, 4), (2, 64), (1, 6), (2, 16), (1, 4), (2, 64), (1, 6), (2, 16), (1, 4), (2, 64), (1, 6), (2, 16), (1, 4), (2, 64), (1, 6), (2, 16),
  (1, 1), (2, 800), (1, 5), (1, 10), (2, 64), (2, 64), (2, 64), (2, 64), (2, 64), (1, 1), (2, 64), (1, 7), (1, 1), (2, 800), (1, 10), (2, 64), (2, 64), (2, 64), (2, 64), (2, 64), (1, 3),
  (2, 64), (1, 8), (2, 64), (2, 64), (2, 16), (2, 16), (2, 16), (2, 192), (2, 3),
  (1, 11), (2, 45), (2, 80), (2, 256), (2, 45), (2, 80), (2, 256), (2, 800), (2, 64), (2, 64), (2, 64), (2, 64), (2, 64), (2, 64), (2, 64), (2, 64), (2, 64), (2, 64), (2, 64), (2, 16), (2, 192), (4, 1)]
def sh_w (N a : Nat) : Nat × Nat := if a = 1 then (2, N) else mc_nth sh_l a (0, 0)
def rf_r (b : Nat) : List (List Nat) := [[b + 1, b + 3], [b + 2], [], [b + 4, b + 8, b + 12, b + 16], [b + 5, b + 6], [], [b + 7], [], [b + 9, b + 10], [], [b + 11], [], [b + 13, b + 14], [], [b + 15], [], [b + 17, b + 18], [], [b + 19], []]
def rf_l : List (List Nat) := [[], [], [], [], [], [], [], [], [], [], [], [12, 13], [], []] ++ rf_r 14 ++ rf_r 34 ++ [[55], [], [57, 62, 63, 54], [58, 59, 60, 61], [], [], [], [], [], [64], [], [74, 66, 68, 73], [67], [], [69, 70, 71, 72], [], [], [], [], [], [54], [], [75, 77, 78, 79, 80, 81, 82, 83], [], [], [], [], [], [], [],
  [0, 0, 85, 86, 87, 0, 88, 89, 90, 91, 0, 92, 93, 94, 95, 96, 97, 98, 0, 0, 0, 0, 0, 0, 0, 0, 0, 99, 0, 100, 101, 102, 0, 103, 104]]
def rf_w (r a y : Nat) : Nat := if a = 10 then mc_nth [54, 56, 65, 75, 76, 11, r, 48 - r] y 0 else mc_nth (mc_nth rf_l a []) y 0
abbrev is_R (a : Nat) : Prop := a ∈ [14, 34]
abbrev is_F (a : Nat) : Prop := a ∈ [18, 22, 26, 30, 38, 42, 46, 50]
abbrev is_P (a : Nat) : Prop := a ∈ [15, 35, 20, 24, 28, 32, 40, 44, 48, 52]
abbrev is_B (a : Nat) : Prop := a ∈ [54, 63, 66]
abbrev is_G (a : Nat) : Prop := a ∈ [57, 68]
def wd_cap (b : Nat) : Nat := if b = 63 then 64 else 800
theorem wd_all {p : Nat → Prop} : ∀ (l : List Nat), (∀ i : Fin l.length, p (l.get i)) → ∀ a ∈ l, p a := fun l h a ha => by
  obtain ⟨i, hi⟩ := List.get_of_mem ha
  rw [← hi]
  exact h i
section
variable {r N a : Nat}
theorem wd_R0 (h : is_R a) : ¬ a = 0 := fun q => by subst q; revert h; decide
theorem wd_Q (h : is_R a) : is_R (48 - a) := by
  rcases List.mem_cons.mp h with rfl | h
  · decide
  · cases List.mem_singleton.mp h; decide
theorem wd_R (h : is_R a) : sh_w N a = (1, 9) ∧ rf_w r a 0 = a + 1 ∧ rf_w r a 1 = a + 3 ∧ sh_w N (a + 1) = (1, 6) ∧ is_P (a + 1) ∧ sh_w N (a + 3) = (3, 4) := by
  rcases List.mem_cons.mp h with rfl | h
  · exact ⟨rfl, rfl, rfl, rfl, by decide, rfl⟩
  · cases List.mem_singleton.mp h; exact ⟨rfl, rfl, rfl, rfl, by decide, rfl⟩
theorem wd_F (h : is_F a) : sh_w N a = (1, 4) ∧ rf_w r a 0 = a + 1 ∧ rf_w r a 1 = a + 2 ∧ sh_w N (a + 1) = (2, 64) ∧ sh_w N (a + 2) = (1, 6) ∧ is_P (a + 2) := by
  simp only [is_F, List.mem_cons, List.not_mem_nil, or_false] at h
  rcases h with rfl | rfl | rfl | rfl | rfl | rfl | rfl | rfl <;> exact ⟨rfl, rfl, rfl, rfl, rfl, by decide⟩
theorem wd_P (h : is_P a) : sh_w N a = (1, 6) ∧ rf_w r a 0 = a + 1 ∧ sh_w N (a + 1) = (2, 16) := by
  simp only [is_P, List.mem_cons, List.not_mem_nil, or_false] at h
  rcases h with rfl | rfl | rfl | rfl | rfl | rfl | rfl | rfl | rfl | rfl <;> exact ⟨rfl, rfl, rfl⟩
theorem wd_B (h : is_B a) : sh_w N a = (1, 1) ∧ rf_w r a 0 = a + 1 ∧ sh_w N (a + 1) = (2, wd_cap a) := by
  simp only [is_B, List.mem_cons, List.not_mem_nil, or_false] at h
  rcases h with rfl | rfl | rfl <;> exact ⟨rfl, rfl, rfl⟩
theorem wd_G (h : is_G a) : sh_w N a = (1, 10) ∧ rf_w r a 0 = a + 1 ∧ rf_w r a 1 = a + 2 ∧ rf_w r a 2 = a + 3 ∧ rf_w r a 3 = a + 4 ∧ sh_w N (a + 1) = (2, 64) ∧ sh_w N (a + 2) = (2, 64) ∧ sh_w N (a + 3) = (2, 64) ∧ sh_w N (a + 4) = (2, 64) := by
  simp only [is_G, List.mem_cons, List.not_mem_nil, or_false] at h
  rcases h with rfl | rfl <;> exact ⟨rfl, rfl, rfl, rfl, rfl, rfl, rfl, rfl, rfl⟩
theorem wd_tF (h : is_F a) (k : Nat) : 10 ≤ a + k := by
  simp only [is_F, List.mem_cons, List.not_mem_nil, or_false] at h; omega
theorem wd_tP (h : is_P a) (k : Nat) : 10 ≤ a + k := by
  simp only [is_P, List.mem_cons, List.not_mem_nil, or_false] at h; omega
theorem wd_tB (h : is_B a) (k : Nat) : 10 ≤ a + k := by
  simp only [is_B, List.mem_cons, List.not_mem_nil, or_false] at h; omega
theorem wd_tG (h : is_G a) (k : Nat) : 10 ≤ a + k := by
  simp only [is_G, List.mem_cons, List.not_mem_nil, or_false] at h; omega
theorem wd_Z {c m : Nat} (h : sh_w N a = (c + 1, m)) : ¬ a = 0 := fun q => by subst q; cases h
theorem vp_in_lt {i : Int32} {m : Nat} (h : vp_in i m) : i.toNatClampNeg < m := Nat.lt_of_not_le fun q => h (Or.inr q)
theorem wd_A {i : Int32} (h : is_R a) (hi : vp_in i 4) : rf_w r (a + 3) i.toNatClampNeg = a + 4 + 4 * i.toNatClampNeg ∧ sh_w N (a + 4 + 4 * i.toNatClampNeg) = (1, 4) ∧ is_F (a + 4 + 4 * i.toNatClampNeg) := by
  have hk := vp_in_lt hi
  generalize i.toNatClampNeg = k at hk ⊢
  rcases List.mem_cons.mp h with rfl | h
  · match k, hk with
    | 0, _ => exact ⟨rfl, rfl, by decide⟩
    | 1, _ => exact ⟨rfl, rfl, by decide⟩
    | 2, _ => exact ⟨rfl, rfl, by decide⟩
    | 3, _ => exact ⟨rfl, rfl, by decide⟩
  · cases List.mem_singleton.mp h
    match k, hk with
    | 0, _ => exact ⟨rfl, rfl, by decide⟩
    | 1, _ => exact ⟨rfl, rfl, by decide⟩
    | 2, _ => exact ⟨rfl, rfl, by decide⟩
    | 3, _ => exact ⟨rfl, rfl, by decide⟩
end
section
variable {S : Nat → Nat × Nat} {P : Nat → Nat → Nat} {a m : Nat} {i : Int32}
theorem wl_ld (hs : S a = (2, m)) (h : vp_in i m) : (S a).1 = 2 ∧ vp_in i (S a).2 := by rw [hs]; exact ⟨rfl, h⟩
theorem wl_st (hs : S a = (2, m)) (h : vp_in i m) (ht : 10 ≤ a) : (S a).1 = 2 ∧ vp_in i (S a).2 ∧ 10 ≤ a := by rw [hs]; exact ⟨rfl, h, ht⟩
theorem wl_ldl (hs : S a = (4, m)) (h : vp_in i m) : (S a).1 = 4 ∧ vp_in i (S a).2 := by rw [hs]; exact ⟨rfl, h⟩
theorem wl_stl (hs : S a = (4, m)) (h : vp_in i m) (ht : 10 ≤ a) : (S a).1 = 4 ∧ vp_in i (S a).2 ∧ 10 ≤ a := by rw [hs]; exact ⟨rfl, h, ht⟩
theorem wl_la (hs : S a = (3, m)) (h : vp_in i m) (hz : ¬ P a i.toNatClampNeg = 0) : (S a).1 = 3 ∧ vp_in i (S a).2 ∧ ¬ P a i.toNatClampNeg = 0 := by rw [hs]; exact ⟨rfl, h, hz⟩
theorem wl_len {c : Nat} (hs : S a = (c, m)) (h2 : 2 ≤ c) (h4 : c ≤ 4) : 2 ≤ (S a).1 ∧ (S a).1 ≤ 4 := by rw [hs]; exact ⟨h2, h4⟩
end
/-- a call that gives back just this -/
theorem mc_ex {c : mc_C} {z : Option Value} {τ : mc_M} {K : Option Value → mc_M → Prop} {X : Nat → mc_M → Prop} (h : mc_WP c (fun o t => o = .inl z ∧ t = τ)) (hk : K z τ) : ∃ R : mc_Q, mc_WP c R ∧ (∀ v t, R (.inl v) t → K v t) ∧ (∀ k t, R (.inr k) t → X k t) :=
  ⟨_, h, fun v t q => by obtain ⟨q1, q2⟩ := q; cases q1; rw [q2]; exact hk, fun k t q => nomatch q.1⟩
/-- a loop: so many turns, whatever else lies in the locals -/
theorem mc_lp {α : Type} {C : Nat → α → mc_C} {Q : mc_Q} (n : Nat) (hs : ∀ k, k < n → ∀ i, (∀ i', mc_WP (C (k + 1) i') Q) → mc_WP (C k i) Q) (he : ∀ i, mc_WP (C n i) Q) : ∀ m k, k + m = n → ∀ i, mc_WP (C k i) Q
  | 0, k, h, i => by cases h; exact he i
  | m + 1, k, h, i => hs k (by omega) i (fun i' => mc_lp n hs he m (k + 1) (by omega) i')
/-- a call looked through: what the callee comes to, the caller goes on with -/
def mc_kr (W : Option Value → mc_M → Prop) (X : Nat → mc_M → Prop) : mc_Q := fun o t => match o with
  | .inl v => W v t
  | .inr k => X k t
theorem mc_inl {c : mc_C} {W : Option Value → mc_M → Prop} {X : Nat → mc_M → Prop} (h : mc_WP c (mc_kr W X)) : ∃ R : mc_Q, mc_WP c R ∧ (∀ v t, R (.inl v) t → W v t) ∧ (∀ k t, R (.inr k) t → X k t) :=
  ⟨_, h, fun _ _ q => q, fun _ _ q => q⟩
