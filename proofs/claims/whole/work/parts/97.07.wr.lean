/-! write: the strings of the codes: pure -/
section
abbrev lz_Z : Type := Nat × Int32 × (Nat → List Int32) × (Nat → Nat)
variable {fr b c e k : Nat} {Z : lz_Z} {R : List Int32} {x : Int32}
/-- codes that stand for strings -/
def va_c (fr : Nat) (Z : lz_Z) (c : Nat) : Prop := c < fr ∨ (fr + 2 ≤ c ∧ c < Z.1)
def lz_ok (fr : Nat) (Z : lz_Z) : Prop := (fr + 2 ≤ Z.1 ∧ Z.1 ≤ 64) ∧ (∀ c, c < fr → Z.2.2.1 c = [Int32.ofNat c]) ∧ (∀ e, fr + 2 ≤ e → e < Z.1 → (Z.2.2.2 e < fr ∨ (fr + 2 ≤ Z.2.2.2 e ∧ Z.2.2.2 e < e)) ∧ ∃ a, Z.2.2.1 e = Z.2.2.1 (Z.2.2.2 e) ++ [a]) ∧ ∀ c c', va_c fr Z c → va_c fr Z c' → Z.2.2.1 c = Z.2.2.1 c' → c = c'
theorem lz_ne (h : lz_ok fr Z) (hc : va_c fr Z c) : Z.2.2.1 c ≠ [] := by
  rcases hc with q | q
  · rw [h.2.1 c q]; simp
  · obtain ⟨a, ha⟩ := (h.2.2.1 c q.1 q.2).2
    rw [ha]; simp
theorem lz_st (h : lz_ok fr Z) (h1 : fr + 2 ≤ e) (h2 : e < Z.1) : va_c fr Z (Z.2.2.2 e) ∧ Z.2.2.2 e < e := by
  rcases (h.2.2.1 e h1 h2).1 with q | q
  · exact ⟨Or.inl q, by omega⟩
  · exact ⟨Or.inr ⟨q.1, by omega⟩, q.2⟩
theorem lz_len (h : lz_ok fr Z) (h1 : fr + 2 ≤ e) (h2 : e < Z.1) : (Z.2.2.1 e).length = (Z.2.2.1 (Z.2.2.2 e)).length + 1 := by
  obtain ⟨a, ha⟩ := (h.2.2.1 e h1 h2).2
  rw [ha, List.length_append, List.length_singleton]
/-- every beginning is there -/
theorem lz_pre (h : lz_ok fr Z) : ∀ (m c k : Nat), c < m → va_c fr Z c → 1 ≤ k → k ≤ (Z.2.2.1 c).length → ∃ e, va_c fr Z e ∧ Z.2.2.1 e = (Z.2.2.1 c).take k
  | 0, c, k, hm, _, _, _ => absurd hm (by omega)
  | m + 1, c, k, hm, hc, h1, hk => by
    by_cases q : k = (Z.2.2.1 c).length
    · exact ⟨c, hc, by rw [q, List.take_length]⟩
    · rcases hc with z | z
      · rw [h.2.1 c z] at hk q
        simp at hk q
        omega
      · obtain ⟨v1, v2⟩ := lz_st h z.1 z.2
        have hl := lz_len h z.1 z.2
        obtain ⟨a, ha⟩ := (h.2.2.1 c z.1 z.2).2
        obtain ⟨e, e1, e2⟩ := lz_pre h m (Z.2.2.2 c) k (by omega) v1 h1 (by omega)
        refine ⟨e, e1, ?_⟩
        rw [e2, ha, List.take_append_of_le_length (by omega)]
/-- none longer begins what is left -/
def gd_c (fr : Nat) (Z : lz_Z) (R : List Int32) (c : Nat) : Prop := va_c fr Z c ∧ Z.2.2.1 c <+: R ∧ ∀ c', va_c fr Z c' → Z.2.2.1 c' <+: R → (Z.2.2.1 c').length ≤ (Z.2.2.1 c).length
theorem pre_tk {l R : List Int32} (h : l <+: R) : l = R.take l.length := List.prefix_iff_eq_take.mp h
theorem gd_un (h : lz_ok fr Z) (h1 : gd_c fr Z R b) (h2 : gd_c fr Z R c) : b = c := by
  refine h.2.2.2 b c h1.1 h2.1 ?_
  have l1 := h1.2.2 c h2.1 h2.2.1
  have l2 := h2.2.2 b h1.1 h1.2.1
  rw [pre_tk h1.2.1, pre_tk h2.2.1, show (Z.2.2.1 b).length = (Z.2.2.1 c).length by omega]
def lz_at (fr : Nat) (Z : lz_Z) (R : List Int32) : Prop := (Z.2.1 = -1 ∧ Z.1 = fr + 2) ∨ ∃ b, va_c fr Z b ∧ Z.2.1 = Int32.ofNat b ∧ ∀ x R', R = x :: R' → ∀ c, va_c fr Z c → ¬ Z.2.2.1 c = Z.2.2.1 b ++ [x]
/-- the entry that the next string makes -/
def lz_nw (Z : lz_Z) (x : Int32) : lz_Z := if Z.2.1 = -1 ∨ 63 < Z.1 then Z else (Z.1 + 1, Z.2.1, fun c => if c = Z.1 then Z.2.2.1 Z.2.1.toNatClampNeg ++ [x] else Z.2.2.1 c, fun c => if c = Z.1 then Z.2.1.toNatClampNeg else Z.2.2.2 c)
theorem nw_old (h : Z.2.1 = -1 ∨ 63 < Z.1) : lz_nw Z x = Z := by unfold lz_nw; rw [if_pos h]
theorem nw_new (h : ¬ (Z.2.1 = -1 ∨ 63 < Z.1)) : lz_nw Z x = (Z.1 + 1, Z.2.1, fun c => if c = Z.1 then Z.2.2.1 Z.2.1.toNatClampNeg ++ [x] else Z.2.2.1 c, fun c => if c = Z.1 then Z.2.1.toNatClampNeg else Z.2.2.2 c) := by unfold lz_nw; rw [if_neg h]
theorem va_lt (h : lz_ok fr Z) (hf : fr ≤ 16) (hc : va_c fr Z c) : c < 64 := by
  have := h.1
  rcases hc with q | q <;> omega
theorem nw_ok (hf : fr ≤ 16) (h : lz_ok fr Z) {R' : List Int32} (ha : lz_at fr Z (x :: R')) : lz_ok fr (lz_nw Z x) := by
  by_cases q : Z.2.1 = -1 ∨ 63 < Z.1
  · rw [nw_old q]; exact h
  · rw [nw_new q]
    have q2 := fun z => q (Or.inr z)
    obtain ⟨g1, g2, g3, g4⟩ := h
    rcases ha with z | ⟨b, b1, b2, b3⟩
    · exact absurd (Or.inl z.1) q
    · have hb64 : b < 64 := va_lt ⟨g1, g2, g3, g4⟩ hf b1
      have hbn : Z.2.1.toNatClampNeg = b := by rw [b2, on_n (by omega)]
      have hbx : b < Z.1 := by rcases b1 with z | z <;> omega
      rw [hbn]
      have ne : ∀ c, va_c fr Z c → ¬ c = Z.1 := fun c hc z => by rcases hc with y | y <;> omega
      have va' : ∀ c, va_c fr (Z.1 + 1, Z.2.1, (fun c => if c = Z.1 then Z.2.2.1 b ++ [x] else Z.2.2.1 c), fun c => if c = Z.1 then b else Z.2.2.2 c) c → c = Z.1 ∨ va_c fr Z c := fun c hc => by
        rcases hc with y | y
        · exact Or.inr (Or.inl y)
        · have y2 : c < Z.1 + 1 := y.2
          by_cases z : c = Z.1
          · exact Or.inl z
          · exact Or.inr (Or.inr ⟨y.1, by omega⟩)
      refine ⟨⟨by show fr + 2 ≤ Z.1 + 1; omega, by show Z.1 + 1 ≤ 64; omega⟩, fun c hc => ?_, fun e e1 e2 => ?_, fun c c' hc hc' heq => ?_⟩
      · show (if c = Z.1 then _ else _) = _
        rw [if_neg (by omega)]; exact g2 c hc
      · have e2' : e < Z.1 + 1 := e2
        show ((if e = Z.1 then b else Z.2.2.2 e) < fr ∨ (fr + 2 ≤ (if e = Z.1 then b else Z.2.2.2 e) ∧ (if e = Z.1 then b else Z.2.2.2 e) < e)) ∧ ∃ a, (if e = Z.1 then Z.2.2.1 b ++ [x] else Z.2.2.1 e) = (if (if e = Z.1 then b else Z.2.2.2 e) = Z.1 then Z.2.2.1 b ++ [x] else Z.2.2.1 (if e = Z.1 then b else Z.2.2.2 e)) ++ [a]
        by_cases z : e = Z.1
        · rw [if_pos z, if_pos z, if_neg (ne b b1)]
          refine ⟨?_, x, rfl⟩
          rcases b1 with y | y
          · exact Or.inl y
          · exact Or.inr ⟨y.1, by omega⟩
        · rw [if_neg z, if_neg z]
          obtain ⟨w1, w2⟩ := g3 e e1 (by omega)
          have : ¬ Z.2.2.2 e = Z.1 := fun y => by rcases w1 with t | t <;> omega
          rw [if_neg this]
          exact ⟨w1, w2⟩
      · have heq' : (if c = Z.1 then Z.2.2.1 b ++ [x] else Z.2.2.1 c) = (if c' = Z.1 then Z.2.2.1 b ++ [x] else Z.2.2.1 c') := heq
        rcases va' c hc with y | y <;> rcases va' c' hc' with y' | y'
        · omega
        · rw [if_pos y, if_neg (ne c' y')] at heq'
          exact absurd heq'.symm (b3 x R' rfl c' y')
        · rw [if_neg (ne c y), if_pos y'] at heq'
          exact absurd heq' (b3 x R' rfl c y)
        · rw [if_neg (ne c y), if_neg (ne c' y')] at heq'
          exact g4 c c' y y' heq'
/-- behind a string -/
def lz_bf (Z : lz_Z) (c : Nat) : lz_Z := (Z.1, Int32.ofNat c, Z.2.2)
def lz_rf (fr : Nat) (Z : lz_Z) : lz_Z := (fr + 2, -1, Z.2.2)
theorem bf_ok (h : lz_ok fr Z) : lz_ok fr (lz_bf Z c) := h
theorem bf_at (h : lz_ok fr Z) (hg : gd_c fr Z R c) : lz_at fr (lz_bf Z c) (R.drop (Z.2.2.1 c).length) := by
  refine Or.inr ⟨c, hg.1, rfl, fun x R' hR c' hc' heq => ?_⟩
  have heq' : Z.2.2.1 c' = Z.2.2.1 c ++ [x] := heq
  have hpre : Z.2.2.1 c' <+: R := by
    rw [heq']
    obtain ⟨t, ht⟩ := hg.2.1
    have h2 : R.drop (Z.2.2.1 c).length = t := by rw [← ht, List.drop_left]
    rw [h2] at hR
    exact ⟨R', by rw [List.append_assoc, ← ht, hR]; rfl⟩
  have := hg.2.2 c' hc' hpre
  rw [heq', List.length_append, List.length_singleton] at this
  omega
theorem rf_ok (hf : fr + 2 ≤ 64) (h : lz_ok fr Z) : lz_ok fr (lz_rf fr Z) := by
  obtain ⟨g1, g2, g3, g4⟩ := h
  refine ⟨⟨Nat.le_refl _, hf⟩, g2, fun e e1 e2 => absurd e2 (by show ¬ e < fr + 2; omega), fun c c' hc hc' heq => ?_⟩
  have v : ∀ c, va_c fr (lz_rf fr Z) c → va_c fr Z c := fun c hc => by
    rcases hc with q | q
    · exact Or.inl q
    · have : c < fr + 2 := q.2
      omega
  exact g4 c c' (v c hc) (v c' hc') heq
theorem rf_at : lz_at fr (lz_rf fr Z) R := Or.inl ⟨rfl, rfl⟩
theorem gd_b (h : lz_ok fr Z) (hg : gd_c fr Z R c) : 1 ≤ (Z.2.2.1 c).length ∧ (Z.2.2.1 c).length ≤ R.length := by
  refine ⟨?_, hg.2.1.length_le⟩
  have := lz_ne h hg.1
  cases hq : Z.2.2.1 c with
  | nil => exact absurd hq this
  | cons a l => exact Nat.succ_le_succ (Nat.zero_le _)
/-- one step along the entries, or none is longer -/
theorem gd_stop (h : lz_ok fr Z) (hc : va_c fr Z c) (hs : Z.2.2.1 c = R.take k) (hk : 1 ≤ k) (hkR : k ≤ R.length) (hno : ∀ e, fr + 2 ≤ e → e < Z.1 → ¬ (Z.2.2.2 e = c ∧ ∃ a, Z.2.2.1 e = Z.2.2.1 c ++ [a] ∧ R[k]? = some a)) : gd_c fr Z R c := by
  have hlen : (Z.2.2.1 c).length = k := by rw [hs, List.length_take]; omega
  refine ⟨hc, by rw [hs]; exact List.take_prefix k R, fun c' hc' hp => ?_⟩
  refine Nat.not_lt.mp fun hlt => ?_
  rw [hlen] at hlt
  obtain ⟨e, e1, e2⟩ := lz_pre h (c' + 1) c' (k + 1) (by omega) hc' (by omega) (by omega)
  have he : Z.2.2.1 e = R.take (k + 1) := by
    rw [e2, pre_tk hp, List.take_take]
    congr 1
    omega
  have hRl : k + 1 ≤ R.length := by have := hp.length_le; omega
  have hel : (Z.2.2.1 e).length = k + 1 := by rw [he, List.length_take]; omega
  rcases e1 with q | q
  · rw [h.2.1 e q] at hel
    simp at hel
    omega
  · obtain ⟨v1, v2⟩ := lz_st h q.1 q.2
    obtain ⟨a, ha⟩ := (h.2.2.1 e q.1 q.2).2
    have hRk : R.take (k + 1) = R.take k ++ [R[k]] := List.take_succ_eq_append_getElem (by omega)
    rw [he, hRk] at ha
    obtain ⟨w1, w2⟩ := List.append_inj' ha rfl
    have hst : Z.2.2.2 e = c := h.2.2.2 _ _ v1 hc (by rw [← w1, hs])
    refine hno e q.1 q.2 ⟨hst, R[k], ?_, List.getElem?_eq_getElem (by omega)⟩
    rw [he, hRk, hs]
end
