/-! what the small machine's memory says of the heap: D: classes and slots; ra: where the places below 10 lie; B: where the others begin -/
section
variable (D : va_G) (ra : Nat → Nat) (B : Nat)
abbrev mc_A : Nat → Prop := fun q => B ≤ q
def mc_ad (k : Nat) : Nat := if 10 ≤ k then B + (k - 10) else ra k
def mc_rf (r : Nat) : Value := if r = 0 then .null else .ref (mc_ad ra B r)
def mc_tv (v : Value) : Value := match v with
  | .ref k => .ref (mc_ad ra B k)
  | v => v
def mc_fv (σ : mc_M) (a ci j : Nat) : Value := if pg_fk ci j = 2 then mc_rf ra B (σ.2.2.1 a j) else .int (σ.1 a j)
def mc_arr (U : State) (H : Heap) (q n : Nat) (ty : FieldType) (f : Nat → Value) : Prop := ∃ cell : Cell, H[q]? = some cell ∧ U.isArrayOf cell ty ∧ cell.vm ≠ .unknown ∧ (n ≤ cell.slots.size ∧ cell.slots.size.toInt32 = Int32.ofNat n) ∧ (∀ j, j < n → cell.slots[j]? = some (f j)) ∧ ∀ C, ty = .object C → va_RA U cell.cls ty
def mc_cell (U : State) (σ : mc_M) (H : Heap) (a : Nat) : Prop :=
  ((σ.2.2.2.1 a).1 = 1 → ∃ r : vw_C, pg_cl[(σ.2.2.2.1 a).2]? = some r ∧ t_OB (mc_ad ra B a) (D.1 (σ.2.2.2.1 a).2) r.2.2 (D.2 (σ.2.2.2.1 a).2) H (mc_fv ra B σ a (σ.2.2.2.1 a).2)) ∧
  ((σ.2.2.2.1 a).1 = 2 → mc_arr U H (mc_ad ra B a) (σ.2.2.2.1 a).2 .int (fun j => .int (σ.1 a j))) ∧
  ((σ.2.2.2.1 a).1 = 3 → mc_arr U H (mc_ad ra B a) (σ.2.2.2.1 a).2 (.object "PaletteReel$Frame") (fun j => mc_rf ra B (σ.2.2.1 a j))) ∧
  ((σ.2.2.2.1 a).1 = 4 → mc_arr U H (mc_ad ra B a) (σ.2.2.2.1 a).2 .long (fun j => .long (σ.2.1 a j)))
def mc_Dy (U : State) (σ : mc_M) (H : Heap) : Prop :=
  (∀ a, mc_cell D ra B U σ H a) ∧ (σ.2.2.2.2 = 0 ∨ (10 ≤ σ.2.2.2.2 ∧ H.size = B + (σ.2.2.2.2 - 10))) ∧ (B ≤ H.size ∧ ∀ (q : Nat) (cell : Cell), B ≤ q → H[q]? = some cell → cell.vm.isStatics = false) ∧ ∀ k, k < 10 → ra k < B ∧ ¬ (σ.2.2.2.1 k).1 = 1
end
section
variable {D : va_G} {ra : Nat → Nat} {B : Nat}
theorem mc_ad_ne (hr : ∀ k, k < 10 → ra k < B) {a b : Nat} (ha : 10 ≤ a) (h : b ≠ a) : mc_ad ra B b ≠ mc_ad ra B a := by
  unfold mc_ad
  rw [if_pos ha]
  by_cases hb : 10 ≤ b
  · rw [if_pos hb]; omega
  · rw [if_neg hb]
    have := hr b (by omega)
    omega
theorem mc_ad_ge {a : Nat} (ha : 10 ≤ a) : B ≤ mc_ad ra B a := by
  unfold mc_ad
  rw [if_pos ha]
  omega
theorem mc_arr.kept {U : State} {H H1 : Heap} {q n : Nat} {ty : FieldType} {f : Nat → Value} (h : mc_arr U H q n ty f) (hq : H1[q]? = H[q]?) : mc_arr U H1 q n ty f := by
  obtain ⟨cell, h1, h2⟩ := h
  exact ⟨cell, by rw [hq]; exact h1, h2⟩
theorem mc_arr.moved {s U : State} (hvm : s.vm.Alike U.vm) {H : Heap} {q n : Nat} {ty : FieldType} {f : Nat → Value} (h : mc_arr s H q n ty f) : mc_arr U H q n ty f := by
  obtain ⟨cell, h1, h2, h3, h4, h5, h6⟩ := h
  exact ⟨cell, h1, State.isArrayOf_alike hvm h2, h3, h4, h5, fun C hC => (h6 C hC).moved hvm⟩
theorem mc_Dy.moved {s U : State} (hvm : s.vm.Alike U.vm) {σ : mc_M} {H : Heap} (h : mc_Dy D ra B s σ H) : mc_Dy D ra B U σ H := by
  obtain ⟨h1, h2⟩ := h
  exact ⟨fun a => ⟨(h1 a).1, fun e => ((h1 a).2.1 e).moved hvm, fun e => ((h1 a).2.2.1 e).moved hvm, fun e => ((h1 a).2.2.2 e).moved hvm⟩, h2⟩
/-- a place whose numbers and cell are as they were -/
theorem mc_cell.same {U : State} {σ τ : mc_M} {H H1 : Heap} {b : Nat} (h : mc_cell D ra B U σ H b) (hI : τ.1 b = σ.1 b) (hJ : τ.2.1 b = σ.2.1 b) (hP : τ.2.2.1 b = σ.2.2.1 b) (hS : τ.2.2.2.1 b = σ.2.2.2.1 b) (hq : 1 ≤ (σ.2.2.2.1 b).1 → (σ.2.2.2.1 b).1 ≤ 4 → H1[mc_ad ra B b]? = H[mc_ad ra B b]?) : mc_cell D ra B U τ H1 b := by
  obtain ⟨h1, h2, h3, h4⟩ := h
  refine ⟨fun e => ?_, fun e => ?_, fun e => ?_, fun e => ?_⟩ <;> rw [hS] at e ⊢
  · obtain ⟨r, hr, ho⟩ := h1 e
    refine ⟨r, hr, (ho.kept (hq (by omega) (by omega))).to fun k _ => ?_⟩
    unfold mc_fv
    rw [hI, hP]
  · rw [hI]; exact (h2 e).kept (hq (by omega) (by omega))
  · rw [hP]; exact (h3 e).kept (hq (by omega) (by omega))
  · rw [hJ]; exact (h4 e).kept (hq (by omega) (by omega))
theorem mc_nost {U : State} {cell : Cell} {ty : FieldType} (h : U.isArrayOf cell ty) : cell.vm.isStatics = false := by
  obtain ⟨h1, -⟩ := h
  cases hv : cell.vm with
  | statics k => exact absurd hv (h1 k)
  | _ => rfl
theorem mc_cell.nost {U : State} {σ : mc_M} {H : Heap} {a : Nat} (h : mc_cell D ra B U σ H a) (h1 : 1 ≤ (σ.2.2.2.1 a).1) (h4 : (σ.2.2.2.1 a).1 ≤ 4) {cell : Cell} (hc : H[mc_ad ra B a]? = some cell) : cell.vm.isStatics = false := by
  rcases (show (σ.2.2.2.1 a).1 = 1 ∨ (σ.2.2.2.1 a).1 = 2 ∨ (σ.2.2.2.1 a).1 = 3 ∨ (σ.2.2.2.1 a).1 = 4 by omega) with e | e | e | e
  · obtain ⟨r, -, c2, q, -, q3, -⟩ := h.1 e
    cases hc.symm.trans q
    rw [q3]; rfl
  · obtain ⟨c2, q, q2, -⟩ := h.2.1 e
    cases hc.symm.trans q
    exact mc_nost q2
  · obtain ⟨c2, q, q2, -⟩ := h.2.2.1 e
    cases hc.symm.trans q
    exact mc_nost q2
  · obtain ⟨c2, q, q2, -⟩ := h.2.2.2 e
    cases hc.symm.trans q
    exact mc_nost q2
/-- one place changes -/
theorem mc_Dy.write {U : State} {σ τ : mc_M} {H H1 : Heap} {a : Nat} (h : mc_Dy D ra B U σ H) (ha : 10 ≤ a) (hI : ∀ b, b ≠ a → τ.1 b = σ.1 b) (hJ : ∀ b, b ≠ a → τ.2.1 b = σ.2.1 b) (hP : ∀ b, b ≠ a → τ.2.2.1 b = σ.2.2.1 b) (hS : τ.2.2.2 = σ.2.2.2) (hk : 1 ≤ (σ.2.2.2.1 a).1 ∧ (σ.2.2.2.1 a).1 ≤ 4)
    (hz : H1.size = H.size) (ho : ∀ q : Nat, q ≠ mc_ad ra B a → H1[q]? = H[q]?) (hc : mc_cell D ra B U τ H1 a) : mc_Dy D ra B U τ H1 := by
  obtain ⟨h1, h2, h3, h4⟩ := h
  refine ⟨fun b => ?_, by rw [hS, hz]; exact h2, ⟨by rw [hz]; exact h3.1, fun q cell hq hc2 => ?_⟩, by rw [hS]; exact h4⟩
  rotate_left
  · by_cases hqa : q = mc_ad ra B a
    · subst hqa; exact hc.nost (by rw [hS]; exact hk.1) (by rw [hS]; exact hk.2) hc2
    · rw [ho q hqa] at hc2; exact h3.2 q cell hq hc2
  by_cases hb : b = a
  · subst hb; exact hc
  · exact (h1 b).same (hI b hb) (hJ b hb) (hP b hb) (by rw [hS]) (fun _ _ => ho _ (mc_ad_ne (fun k hk => (h4 k hk).1) ha hb))
theorem mc_up_ne {α : Type} {f : Nat → Nat → α} {a k b : Nat} {v : α} (h : b ≠ a) : mc_up f a k v b = f b := by
  funext j
  simp [mc_up, h]
theorem mc_up_eq {α : Type} {f : Nat → Nat → α} {a k : Nat} {v : α} : mc_up f a k v a k = v := by simp [mc_up]
theorem mc_up_at {α : Type} {f : Nat → Nat → α} {a k j : Nat} {v : α} (h : j ≠ k) : mc_up f a k v a j = f a j := by simp [mc_up, h]
/-- an array's store -/
theorem mc_arr.set {U : State} {H H1 : Heap} {q n k : Nat} {ty : FieldType} {f : Nat → Value} {x : Value} (h : mc_arr U H q n ty f) (hk : k < n) (hx : ∀ cell : Cell, H[q]? = some cell → H1[q]? = some (cell.setSlot k x)) {g : Nat → Value} (hg : ∀ j, g j = if j = k then x else f j) : mc_arr U H1 q n ty g := by
  obtain ⟨cell, h1, h2, h3, h4, h5, h6⟩ := h
  refine ⟨_, hx cell h1, ?_, h3, by rw [k2_slotsz]; exact h4, fun j hj => ?_, h6⟩
  · obtain ⟨e1, e2⟩ := h2
    exact ⟨e1, e2⟩
  · rw [hg j]
    by_cases hjk : j = k
    · subst hjk
      rw [if_pos rfl]
      have hj2 : j < cell.slots.size := Nat.lt_of_lt_of_le hj h4.1
      simp [Cell.setSlot, hj2]
    · rw [if_neg hjk, slot_ne _ _ (fun e => hjk e.symm)]
      exact h5 j hj
/-- a new place: the next cell -/
theorem mc_Dy.make {U : State} {σ : mc_M} {H H1 : Heap} {t : Nat × Nat} (h : mc_Dy D ra B U σ H) (hn : 10 ≤ σ.2.2.2.2) (ht : 1 ≤ t.1 ∧ t.1 ≤ 4) (hz : H1.size = H.size + 1) (ho : ∀ q : Nat, q < H.size → H1[q]? = H[q]?) (hc : mc_cell D ra B U (mc_mk σ t) H1 σ.2.2.2.2) : mc_Dy D ra B U (mc_mk σ t) H1 := by
  obtain ⟨h1, h2, h3, h4⟩ := h
  have hs : H.size = B + (σ.2.2.2.2 - 10) := by
    rcases h2 with h2 | h2
    · omega
    · exact h2.2
  refine ⟨fun b => ?_, Or.inr ⟨by show 10 ≤ σ.2.2.2.2 + 1; omega, by show H1.size = B + (σ.2.2.2.2 + 1 - 10); omega⟩, ⟨by have := h3.1; omega, fun q cell hq hc2 => ?_⟩, fun k hk => ⟨(h4 k hk).1, ?_⟩⟩
  rotate_left
  · by_cases hqa : q < H.size
    · rw [ho q hqa] at hc2; exact h3.2 q cell hq hc2
    · have hlt := (Array.getElem?_eq_some_iff.mp hc2).1
      have hqe : q = mc_ad ra B σ.2.2.2.2 := by unfold mc_ad; rw [if_pos hn]; omega
      rw [hqe] at hc2
      have hsh : (mc_mk σ t).2.2.2.1 σ.2.2.2.2 = t := by show mc_row _ _ _ _ = _; simp [mc_row]
      exact hc.nost (by rw [hsh]; exact ht.1) (by rw [hsh]; exact ht.2) hc2
  · show ¬ (mc_row σ.2.2.2.1 σ.2.2.2.2 t k).1 = 1
    rw [show mc_row σ.2.2.2.1 σ.2.2.2.2 t k = σ.2.2.2.1 k by simp [mc_row, show k ≠ σ.2.2.2.2 by omega]]
    exact (h4 k hk).2
  by_cases hb : b = σ.2.2.2.2
  · subst hb; exact hc
  · have hr : ∀ {α : Type} (f : Nat → α) (v : α), mc_row f σ.2.2.2.2 v b = f b := fun f v => by simp [mc_row, hb]
    refine (h1 b).same (hr _ _) (hr _ _) (hr _ _) (hr _ _) (fun hs0 hs4 => ho _ ?_)
    rcases (show (σ.2.2.2.1 b).1 = 1 ∨ (σ.2.2.2.1 b).1 = 2 ∨ (σ.2.2.2.1 b).1 = 3 ∨ (σ.2.2.2.1 b).1 = 4 by omega) with e | e | e | e
    · obtain ⟨r, -, cell, q, -⟩ := (h1 b).1 e
      exact (Array.getElem?_eq_some_iff.mp q).1
    · obtain ⟨cell, q, -⟩ := (h1 b).2.1 e
      exact (Array.getElem?_eq_some_iff.mp q).1
    · obtain ⟨cell, q, -⟩ := (h1 b).2.2.1 e
      exact (Array.getElem?_eq_some_iff.mp q).1
    · obtain ⟨cell, q, -⟩ := (h1 b).2.2.2 e
      exact (Array.getElem?_eq_some_iff.mp q).1
theorem mc_Dy.ten {U : State} {σ : mc_M} {H : Heap} (h : mc_Dy D ra B U σ H) {a x : Nat} (hs : σ.2.2.2.1 a = (1, x)) : 10 ≤ a := by
  rcases Nat.lt_or_ge a 10 with h1 | h1
  · exact absurd (by rw [hs]) (h.2.2.2 a h1).2
  · exact h1
theorem mc_ad_next {U : State} {σ : mc_M} {H : Heap} (h : mc_Dy D ra B U σ H) (hn : 10 ≤ σ.2.2.2.2) : mc_ad ra B σ.2.2.2.2 = H.size := by
  rcases h.2.1 with h2 | h2
  · omega
  · unfold mc_ad
    rw [if_pos hn, h2.2]
theorem mc_row_eq {α : Type} {f : Nat → α} {a : Nat} {v : α} : mc_row f a v a = v := by simp [mc_row]
end
