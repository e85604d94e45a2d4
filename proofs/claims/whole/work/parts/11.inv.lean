section
variable {L st : List Value} {σ : mc_M} {u : mc_U} {R : Option Prop × List Value × List Value × mc_M × mc_U}
theorem mc_ldi_inv {i : Nat} (h : mc_ldi L st σ u i = some R) : ∃ x, mc_at L i = .int x ∧ R = (none, L, .int x :: st, σ, u) := by
  unfold mc_ldi at h
  split at h
  · cases h; exact ⟨_, by assumption, rfl⟩
  · cases h
theorem mc_ldl_inv {i : Nat} (h : mc_ldl L st σ u i = some R) : ∃ x, mc_at L i = .long x ∧ R = (none, L, .long x :: st, σ, u) := by
  unfold mc_ldl at h
  split at h
  · cases h; exact ⟨_, by assumption, rfl⟩
  · cases h
theorem mc_lda_inv {i : Nat} (h : mc_lda L st σ u i = some R) : ∃ x, mc_at L i = .ref x ∧ R = (none, L, .ref x :: st, σ, u) := by
  unfold mc_lda at h
  split at h
  · cases h; exact ⟨_, by assumption, rfl⟩
  · cases h
theorem mc_sti_inv {i : Nat} (h : mc_sti L st σ u i = some R) : ∃ x r, st = .int x :: r ∧ R = (none, mc_set L i (.int x), r, σ, u) := by
  unfold mc_sti at h
  split at h
  · cases h; exact ⟨_, _, rfl, rfl⟩
  · cases h
theorem mc_sta_inv {i : Nat} (h : mc_sta L st σ u i = some R) : ∃ x r, st = .ref x :: r ∧ R = (none, mc_set L i (.ref x), r, σ, u) := by
  unfold mc_sta at h
  split at h
  · cases h; exact ⟨_, _, rfl, rfl⟩
  · cases h
theorem mc_inc_inv {i : Nat} {k : Int} (h : mc_inc L st σ u i k = some R) : ∃ x, mc_at L i = .int x ∧ R = (none, mc_set L i (.int (x + Int32.ofInt k)), st, σ, u) := by
  unfold mc_inc at h
  split at h
  · cases h; exact ⟨_, by assumption, rfl⟩
  · cases h
theorem mc_ii_inv {f : Int32 → Int32 → Int32} (h : mc_ii L st σ u f = some R) : ∃ x y r, st = .int y :: .int x :: r ∧ R = (none, L, .int (f x y) :: r, σ, u) := by
  unfold mc_ii at h
  split at h
  · cases h; exact ⟨_, _, _, rfl, rfl⟩
  · cases h
theorem mc_iio_inv {f : Int32 → Int32 → Int32} (h : mc_iio L st σ u f = some R) : ∃ x y r, st = .int y :: .int x :: r ∧ R = (some (¬ y = 0), L, .int (f x y) :: r, σ, u) := by
  unfold mc_iio at h
  split at h
  · cases h; exact ⟨_, _, _, rfl, rfl⟩
  · cases h
theorem mc_ll_inv {f : Int64 → Int64 → Int64} (h : mc_ll L st σ u f = some R) : ∃ x y r, st = .long y :: .long x :: r ∧ R = (none, L, .long (f x y) :: r, σ, u) := by
  unfold mc_ll at h
  split at h
  · cases h; exact ⟨_, _, _, rfl, rfl⟩
  · cases h
theorem mc_li_inv {f : Int64 → Int32 → Int64} (h : mc_li L st σ u f = some R) : ∃ x y r, st = .int y :: .long x :: r ∧ R = (none, L, .long (f x y) :: r, σ, u) := by
  unfold mc_li at h
  split at h
  · cases h; exact ⟨_, _, _, rfl, rfl⟩
  · cases h
theorem mc_dup_inv (h : mc_dup L st σ u = some R) : ∃ v r, st = v :: r ∧ mc_one v = true ∧ R = (none, L, v :: v :: r, σ, u) := by
  unfold mc_dup at h
  split at h
  · split at h
    · cases h; exact ⟨_, _, rfl, by assumption, rfl⟩
    · cases h
  · cases h
theorem mc_pop_inv (h : mc_pop L st σ u = some R) : ∃ v r, st = v :: r ∧ mc_one v = true ∧ R = (none, L, r, σ, u) := by
  unfold mc_pop at h
  split at h
  · split at h
    · cases h; exact ⟨_, _, rfl, by assumption, rfl⟩
    · cases h
  · cases h
theorem mc_dup2_inv (h : mc_dup2 L st σ u = some R) : ∃ v x r, st = v :: x :: r ∧ mc_one v = true ∧ mc_one x = true ∧ R = (none, L, v :: x :: v :: x :: r, σ, u) := by
  unfold mc_dup2 at h
  split at h
  · split at h
    · cases h; exact ⟨_, _, _, rfl, by assumption, by assumption, rfl⟩
    · cases h
  · cases h
theorem mc_get_inv {x y z : Nat} (h : mc_get L st σ u x y z = some R) : ∃ a r, st = .ref a :: r ∧ ((z = 2 ∧ R = (some (σ.2.2.2.1 a = (1, x) ∧ ¬ σ.2.2.1 a y = 0), L, .ref (σ.2.2.1 a y) :: r, σ, u)) ∨ (z ≠ 2 ∧ R = (some (σ.2.2.2.1 a = (1, x)), L, .int (σ.1 a y) :: r, σ, u))) := by
  unfold mc_get at h
  split at h
  · split at h
    · cases h; exact ⟨_, _, rfl, Or.inl ⟨rfl, rfl⟩⟩
    · cases h; exact ⟨_, _, rfl, Or.inr ⟨by assumption, rfl⟩⟩
  · cases h
theorem mc_putf_inv {x y z : Nat} (h : mc_putf L st σ u x y z = some R) :
    (∃ v a r, z = 0 ∧ st = .int v :: .ref a :: r ∧ R = (some (σ.2.2.2.1 a = (1, x)), L, r, (mc_up σ.1 a y v, σ.2), u)) ∨
    (∃ v a r, z = 1 ∧ st = .int v :: .ref a :: r ∧ R = (some (σ.2.2.2.1 a = (1, x) ∧ (v = 0 ∨ v = 1)), L, r, (mc_up σ.1 a y v, σ.2), u)) ∨
    (∃ v a r, z = 2 ∧ st = .ref v :: .ref a :: r ∧ R = (some (σ.2.2.2.1 a = (1, x) ∧ ¬ v = 0), L, r, (σ.1, σ.2.1, mc_up σ.2.2.1 a y v, σ.2.2.2), u)) := by
  unfold mc_putf at h
  split at h
  · cases h; exact Or.inl ⟨_, _, _, rfl, rfl, rfl⟩
  · cases h; exact Or.inr (Or.inl ⟨_, _, _, rfl, rfl, rfl⟩)
  · cases h; exact Or.inr (Or.inr ⟨_, _, _, rfl, rfl, rfl⟩)
  · cases h
theorem mc_iald_inv (h : mc_iald L st σ u = some R) : ∃ i a r, st = .int i :: .ref a :: r ∧ R = (some ((σ.2.2.2.1 a).1 = 2 ∧ vp_in i (σ.2.2.2.1 a).2), L, .int (σ.1 a i.toNatClampNeg) :: r, σ, u) := by
  unfold mc_iald at h
  split at h
  · cases h; exact ⟨_, _, _, rfl, rfl⟩
  · cases h
theorem mc_lald_inv (h : mc_lald L st σ u = some R) : ∃ i a r, st = .int i :: .ref a :: r ∧ R = (some ((σ.2.2.2.1 a).1 = 4 ∧ vp_in i (σ.2.2.2.1 a).2), L, .long (σ.2.1 a i.toNatClampNeg) :: r, σ, u) := by
  unfold mc_lald at h
  split at h
  · cases h; exact ⟨_, _, _, rfl, rfl⟩
  · cases h
theorem mc_aald_inv (h : mc_aald L st σ u = some R) : ∃ i a r, st = .int i :: .ref a :: r ∧ R = (some ((σ.2.2.2.1 a).1 = 3 ∧ vp_in i (σ.2.2.2.1 a).2 ∧ ¬ σ.2.2.1 a i.toNatClampNeg = 0), L, .ref (σ.2.2.1 a i.toNatClampNeg) :: r, σ, u) := by
  unfold mc_aald at h
  split at h
  · cases h; exact ⟨_, _, _, rfl, rfl⟩
  · cases h
theorem mc_iast_inv (h : mc_iast L st σ u = some R) : ∃ v i a r, st = .int v :: .int i :: .ref a :: r ∧ R = (some ((σ.2.2.2.1 a).1 = 2 ∧ vp_in i (σ.2.2.2.1 a).2 ∧ 10 ≤ a), L, r, (mc_up σ.1 a i.toNatClampNeg v, σ.2), u) := by
  unfold mc_iast at h
  split at h
  · cases h; exact ⟨_, _, _, _, rfl, rfl⟩
  · cases h
theorem mc_last_inv (h : mc_last L st σ u = some R) : ∃ v i a r, st = .long v :: .int i :: .ref a :: r ∧ R = (some ((σ.2.2.2.1 a).1 = 4 ∧ vp_in i (σ.2.2.2.1 a).2 ∧ 10 ≤ a), L, r, (σ.1, mc_up σ.2.1 a i.toNatClampNeg v, σ.2.2), u) := by
  unfold mc_last at h
  split at h
  · cases h; exact ⟨_, _, _, _, rfl, rfl⟩
  · cases h
theorem mc_aast_inv {x : Nat} (h : mc_aast L st σ u x = some R) : ∃ v i a r, st = .ref v :: .int i :: .ref a :: r ∧ R = (some ((σ.2.2.2.1 a).1 = 3 ∧ vp_in i (σ.2.2.2.1 a).2 ∧ 10 ≤ a ∧ σ.2.2.2.1 v = (1, x) ∧ ¬ v = 0), L, r, (σ.1, σ.2.1, mc_up σ.2.2.1 a i.toNatClampNeg v, σ.2.2.2), u) := by
  unfold mc_aast at h
  split at h
  · cases h; exact ⟨_, _, _, _, rfl, rfl⟩
  · cases h
theorem mc_alen_inv (h : mc_alen L st σ u = some R) : ∃ a r, st = .ref a :: r ∧ R = (some (2 ≤ (σ.2.2.2.1 a).1 ∧ (σ.2.2.2.1 a).1 ≤ 4), L, .int (Int32.ofNat (σ.2.2.2.1 a).2) :: r, σ, u) := by
  unfold mc_alen at h
  split at h
  · cases h; exact ⟨_, _, rfl, rfl⟩
  · cases h
theorem mc_newa_inv {b : mc_U} {x : Nat} (h : mc_newa L st σ u b x = some R) : ∃ n r, st = .int n :: r ∧ R = (some (10 ≤ σ.2.2.2.2 ∧ ¬ n < 0 ∧ n.toNatClampNeg ≤ 1000 ∧ u.1 + 1 ≤ b.1 ∧ u.2 + n.toNatClampNeg ≤ b.2), L, .ref σ.2.2.2.2 :: r, mc_mk σ (x, n.toNatClampNeg), (u.1 + 1, u.2 + n.toNatClampNeg)) := by
  unfold mc_newa at h
  split at h
  · cases h; exact ⟨_, _, rfl, rfl⟩
  · cases h
theorem mc_copy_inv (h : mc_copy L st σ u = some R) : ∃ n dp b sp a r, st = .int n :: .int dp :: .ref b :: .int sp :: .ref a :: r ∧ R = (some ((σ.2.2.2.1 a).1 = 2 ∧ (σ.2.2.2.1 b).1 = 2 ∧ 10 ≤ b ∧ ¬ sp < 0 ∧ ¬ dp < 0 ∧ ¬ n < 0 ∧ sp.toNatClampNeg + n.toNatClampNeg ≤ (σ.2.2.2.1 a).2 ∧ dp.toNatClampNeg + n.toNatClampNeg ≤ (σ.2.2.2.1 b).2), L, r, (mc_cpy σ.1 a b sp.toNatClampNeg dp.toNatClampNeg n.toNatClampNeg, σ.2), u) := by
  unfold mc_copy at h
  split at h
  · cases h; exact ⟨_, _, _, _, _, _, rfl, rfl⟩
  · cases h
theorem mc_obj_inv (h : mc_obj L st σ u = some R) : ∃ a r, st = .ref a :: r ∧ R = (none, L, r, σ, u) := by
  unfold mc_obj at h
  split at h
  · cases h; exact ⟨_, _, rfl, rfl⟩
  · cases h
end
theorem mc_one_cat {ra : Nat → Nat} {B : Nat} {v : Value} (h : mc_one v = true) : (mc_tv ra B v).category = 1 := by
  cases v <;> first | rfl | cases h
/-! locals -/
section
variable (ra : Nat → Nat) (B : Nat)
def mc_lr (ls : Array Slot) (n : Nat) (L : List Value) : Prop := ls.size = n ∧ lv_wf ls ∧ ∀ i v, mc_at L i = v → v ≠ .null → ls[i]? = some (.val (mc_tv ra B v))
def mc_pl (L : List Value) (n : Nat) : List (Nat × Value) := (List.range n).filterMap fun i => if mc_at L i = .null then none else some (i, mc_tv ra B (mc_at L i))
end
section
variable {ra : Nat → Nat} {B : Nat}
theorem mc_lr.has {ls : Array Slot} {n : Nat} {L : List Value} (h : mc_lr ra B ls n L) : lv_has ls n (mc_pl ra B L n) := by
  refine ⟨h.1, h.2.1, fun q hq => ?_⟩
  obtain ⟨i, -, hi⟩ := List.mem_filterMap.mp hq
  split at hi
  · cases hi
  · cases hi
    exact h.2.2 i _ rfl (by assumption)
theorem mc_at_set : ∀ (L : List Value) (i j : Nat) (v : Value), mc_at (mc_set L i v) j = (if j = i ∧ i < L.length then v else if j + 1 = i then mc_kill (mc_at L j) else mc_at L j) ∨ mc_at (mc_set L i v) j = .null
  | [], i, j, v => Or.inr (by cases j <;> rfl)
  | a :: r, 0, 0, v => Or.inl (by simp [mc_set, mc_at])
  | a :: r, 0, j + 1, v => Or.inl (by simp [mc_set, mc_at])
  | a :: r, 1, 0, v => Or.inl (by simp [mc_set, mc_at])
  | a :: r, 1, j + 1, v => by
    rcases mc_at_set r 0 j v with h | h
    · left
      show mc_at (mc_set r 0 v) j = _
      rw [h]
      by_cases hj : j = 0 ∧ 0 < r.length
      · rw [if_pos hj, if_pos ⟨by omega, by simp; omega⟩]
      · rw [if_neg hj, if_neg (by omega), if_neg (fun e => hj ⟨by omega, by have := e.2; simp at this; omega⟩), if_neg (by omega)]
        rfl
    · exact Or.inr h
  | a :: r, i + 2, 0, v => Or.inl (by simp [mc_set, mc_at])
  | a :: r, i + 2, j + 1, v => by
    rcases mc_at_set r (i + 1) j v with h | h
    · left
      show mc_at (mc_set r (i + 1) v) j = _
      rw [h]
      by_cases hj : j = i + 1 ∧ i + 1 < r.length
      · rw [if_pos hj, if_pos ⟨by omega, by simp; omega⟩]
      · rw [if_neg hj]
        by_cases h2 : j + 1 = i + 1
        · rw [if_pos h2, if_neg (show ¬ (j + 1 = i + 2 ∧ i + 2 < (a :: r).length) by omega), if_pos (show j + 1 + 1 = i + 2 by omega)]
          rfl
        · have h3 : ¬ (j + 1 = i + 2 ∧ i + 2 < (a :: r).length) := fun e => hj ⟨by omega, by have := e.2; simp at this; omega⟩
          rw [if_neg h2, if_neg h3, if_neg (by omega)]
          rfl
    · exact Or.inr h
theorem mc_at_out : ∀ (L : List Value) (i : Nat), ¬ i < L.length → mc_at L i = .null
  | [], _, _ => rfl
  | _ :: _, 0, h => absurd (Nat.zero_lt_succ _) h
  | _ :: r, i + 1, h => mc_at_out r i (fun q => h (Nat.succ_lt_succ q))
/-- what a row of the kit says of the locals behind a store of one slot -/
theorem mc_lr.store {ls ls' : Array Slot} {n i : Nat} {L : List Value} {v w : Value} (h : mc_lr ra B ls n L) (hw : w = mc_tv ra B v) (h' : lv_has ls' n ((i, w) :: (mc_pl ra B L n).filter (fun q => !(q.1 == i) && !(q.1 + 1 == i && q.2.category == 2)))) : mc_lr ra B ls' n (mc_set L i v) := by
  subst hw
  refine ⟨h'.1, h'.2.1, fun j z hz hn => ?_⟩
  rcases mc_at_set L i j v with e | e
  · rw [hz] at e
    by_cases h1 : j = i ∧ i < L.length
    · rw [if_pos h1] at e
      subst e
      rw [h1.1]
      exact h'.2.2 (i, mc_tv ra B z) List.mem_cons_self
    · rw [if_neg h1] at e
      have old : mc_at L j = z → ¬ j = i → (j + 1 = i → (mc_tv ra B z).category ≠ 2) → ls'[j]? = some (.val (mc_tv ra B z)) := by
        intro e1 e2 e3
        refine h'.2.2 (j, mc_tv ra B z) (List.mem_cons_of_mem _ (List.mem_filter.mpr ⟨List.mem_filterMap.mpr ⟨j, List.mem_range.mpr ?_, ?_⟩, ?_⟩))
        · have := lv_lt (h.2.2 j z e1 hn)
          rw [h.1] at this
          exact this
        · rw [e1, if_neg hn]
        · simp only [Bool.and_eq_true, Bool.not_eq_true', Bool.and_eq_false_imp, beq_iff_eq, beq_eq_false_iff_ne]
          exact ⟨e2, e3⟩
      by_cases h2 : j + 1 = i
      · rw [if_pos h2] at e
        cases hv : mc_at L j with
        | long x => rw [hv] at e; exact absurd e hn
        | double x => rw [hv] at e; exact absurd e hn
        | _ => rw [hv] at e; exact old (by rw [hv]; exact e.symm) (by omega) (fun _ => by rw [e]; intro hc; cases hc)
      · rw [if_neg h2] at e
        by_cases h3 : j = i
        · -- the place lies behind the list: nothing is said
          have h4 : ¬ i < L.length := fun q => h1 ⟨h3, q⟩
          exact absurd (by rw [e, h3]; exact mc_at_out L i h4) hn
        · exact old e.symm h3 (fun q => absurd q h2)
  · exact absurd (hz.symm.trans e) hn
theorem mc_lr.at {ls : Array Slot} {n i : Nat} {L : List Value} {v : Value} (h : mc_lr ra B ls n L) (he : mc_at L i = v) (hn : v ≠ .null) : ls[i]? = some (.val (mc_tv ra B v)) := h.2.2 i v he hn
end
