theorem mc_adj_lt : ∀ (pre : List mc_E) (e : mc_E) (r : List mc_E), mc_adj (pre ++ e :: r) = true → ∀ x ∈ pre, x.1 < e.1
  | [], _, _, _, x, hx => by cases hx
  | [p], e, r, h, x, hx => by
    have h1 : (Nat.beq (p.1 + p.2.2.1) e.1 && Nat.blt p.1 e.1 && mc_adj (e :: r)) = true := h
    simp only [Bool.and_eq_true] at h1
    cases List.mem_singleton.mp hx
    exact Nat.le_of_ble_eq_true h1.1.2
  | p :: q :: pre, e, r, h, x, hx => by
    have h1 : (Nat.beq (p.1 + p.2.2.1) q.1 && Nat.blt p.1 q.1 && mc_adj (q :: pre ++ e :: r)) = true := h
    simp only [Bool.and_eq_true] at h1
    have ih := mc_adj_lt (q :: pre) e r h1.2
    rcases List.mem_cons.mp hx with rfl | hx
    · exact Nat.lt_trans (Nat.le_of_ble_eq_true h1.1.2) (ih q List.mem_cons_self)
    · exact ih x hx
theorem mc_adj_next : ∀ (pre : List mc_E) (e f : mc_E) (r : List mc_E), mc_adj (pre ++ e :: f :: r) = true → e.1 + e.2.2.1 = f.1
  | [], e, f, r, h => by
    have h1 : (Nat.beq (e.1 + e.2.2.1) f.1 && Nat.blt e.1 f.1 && mc_adj (f :: r)) = true := h
    simp only [Bool.and_eq_true] at h1
    exact Nat.eq_of_beq_eq_true h1.1.1
  | [p], e, f, r, h => by
    have h1 : (Nat.beq (p.1 + p.2.2.1) e.1 && Nat.blt p.1 e.1 && mc_adj ([] ++ e :: f :: r)) = true := h
    simp only [Bool.and_eq_true] at h1
    exact mc_adj_next [] e f r h1.2
  | p :: q :: pre, e, f, r, h => by
    have h1 : (Nat.beq (p.1 + p.2.2.1) q.1 && Nat.blt p.1 q.1 && mc_adj (q :: pre ++ e :: f :: r)) = true := h
    simp only [Bool.and_eq_true] at h1
    exact mc_adj_next (q :: pre) e f r h1.2
theorem mc_dropPre {pc : Nat} : ∀ (pre : List mc_E) (e : mc_E) (r : List mc_E), (∀ x ∈ pre, x.1 < pc) → e.1 = pc → (pre ++ e :: r).dropWhile (fun e => !(Nat.beq e.1 pc)) = e :: r
  | [], e, r, _, he => by
    have h1 : Nat.beq e.1 pc = true := by rw [he]; exact Nat.beq_refl pc
    simp [List.dropWhile, h1]
  | p :: pre, e, r, h, he => by
    have h1 : Nat.beq p.1 pc = false := by
      cases hb : Nat.beq p.1 pc with
      | false => rfl
      | true =>
        have := Nat.eq_of_beq_eq_true hb
        have := h p List.mem_cons_self
        omega
    have ih := mc_dropPre pre e r (fun x hx => h x (List.mem_cons_of_mem _ hx)) he
    simp only [List.cons_append, List.dropWhile, h1, Bool.not_false]
    exact ih
theorem mc_from_eq {mi : Nat} {pre r : List mc_E} {e : mc_E} (ht : pg_tb mi = pre ++ e :: r) (ha : mc_adj (pg_tb mi) = true) : mc_from mi e.1 = e :: r := by
  unfold mc_from
  rw [ht]
  exact mc_dropPre pre e r (mc_adj_lt pre e r (by rw [← ht]; exact ha)) rfl
theorem mc_from_split {mi pc : Nat} {e : mc_E} {r : List mc_E} (h : mc_from mi pc = e :: r) : e.1 = pc ∧ ∃ pre, pg_tb mi = pre ++ e :: r := by
  have key : ∀ l : List mc_E, l.dropWhile (fun e => !(Nat.beq e.1 pc)) = e :: r → e.1 = pc ∧ ∃ pre, l = pre ++ e :: r := by
    intro l
    induction l with
    | nil => intro h; cases h
    | cons x l ih =>
      intro h
      cases hb : Nat.beq x.1 pc with
      | true =>
        simp only [List.dropWhile, hb, Bool.not_true] at h
        cases h
        exact ⟨Nat.eq_of_beq_eq_true hb, [], rfl⟩
      | false =>
        simp only [List.dropWhile, hb, Bool.not_false] at h
        obtain ⟨h1, pre, h2⟩ := ih h
        exact ⟨h1, x :: pre, by rw [h2]; rfl⟩
  exact key _ h
theorem mc_WP.along {mi : Nat} {Q : mc_Q} (ha : mc_adj (pg_tb mi) = true) : ∀ (n : Nat) (pre : List mc_E) (e : mc_E) (r : List mc_E) (L st : List Value) (σ : mc_M) (u : mc_U), pg_tb mi = pre ++ e :: r →
    mc_run mi (fun t L st σ u => mc_WP (mi, t, L, st, σ, u) Q) (fun mi args σ P => mc_WP (mc_en mi args σ) P) Q n (e :: r) L st σ u → mc_WP (mi, e.1, L, st, σ, u) Q
  | 0, _, _, _, _, _, _, _, _, h => h
  | n + 1, pre, e, r, L, st, σ, u, ht, h => by
    refine mc_WP.fold ?_
    unfold mc_F
    rw [mc_from_eq ht ha]
    refine mc_step_mono (fun L st σ u hn => ?_) (fun _ _ _ _ _ x => x) (fun _ _ _ _ x => x) (fun _ _ x => x) h
    cases r with
    | nil => cases n <;> exact hn.elim
    | cons f r =>
      have h1 := mc_WP.along ha n (pre ++ [e]) f r L st σ u (by rw [ht]; simp) hn
      have h2 := mc_adj_next pre e f r (by rw [← ht]; exact ha)
      show mc_WP (mi, e.1 + e.2.2.1, L, st, σ, u) Q
      rw [h2]
      exact h1
theorem mc_WP.run {mi pc : Nat} {L st : List Value} {σ : mc_M} {u : mc_U} {Q : mc_Q} (ha : mc_adj (pg_tb mi) = true) (n : Nat)
    (h : mc_run mi (fun t L st σ u => mc_WP (mi, t, L, st, σ, u) Q) (fun mi args σ P => mc_WP (mc_en mi args σ) P) Q n (mc_from mi pc) L st σ u) : mc_WP (mi, pc, L, st, σ, u) Q := by
  cases hf : mc_from mi pc with
  | nil => rw [hf] at h; cases n <;> exact h.elim
  | cons e r =>
    obtain ⟨h1, pre, h2⟩ := mc_from_split hf
    rw [hf] at h
    have := mc_WP.along ha n pre e r L st σ u h2 h
    rw [h1] at this
    exact this
