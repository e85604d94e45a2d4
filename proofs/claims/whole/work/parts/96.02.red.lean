/-! reduce: counting the colours -/
section
variable {I M : rl_M} {J : Nat → Nat → Int64} {r N n : Nat} {Q : mc_Q} {L : List rd_T} {c : Int32} {rc rn i : Nat}
def ad_l : List rd_T → Int32 → List rd_T
  | [], c => [(c, 1)]
  | a :: l, c => if a.1 = c then (a.1, a.2 + 1) :: l else a :: ad_l l c
theorem ad_new : ∀ {L : List rd_T} {c : Int32}, (∀ a ∈ L, ¬ a.1 = c) → ad_l L c = L ++ [(c, 1)]
  | [], _, _ => rfl
  | a :: l, c, h => by
    unfold ad_l
    rw [if_neg (h a List.mem_cons_self), ad_new (fun b hb => h b (List.mem_cons_of_mem _ hb))]
    rfl
theorem ad_old : ∀ {L : List rd_T} {c : Int32} {i : Nat} {a : rd_T}, (∀ j, j < i → ∀ b, L[j]? = some b → ¬ b.1 = c) → L[i]? = some a → a.1 = c → ad_l L c = L.set i (a.1, a.2 + 1)
  | [], _, _, _, _, h, _ => by cases h
  | b :: l, c, 0, a, _, h, hc => by
    cases h
    unfold ad_l
    rw [if_pos hc]
    rfl
  | b :: l, c, i + 1, a, hj, h, hc => by
    unfold ad_l
    rw [if_neg (hj 0 (by omega) b rfl), ad_old (i := i) (fun j hj' d hd => hj (j + 1) (by omega) d hd) h hc]
    rfl
/-- what a list of counted colours keeps to -/
def cu_is (L : List rd_T) (t : Nat) : Prop := (∀ a ∈ L, (0 ≤ a.1.toInt ∧ a.1.toInt < 16777216) ∧ 1 ≤ a.2.toInt) ∧ L.Pairwise (fun a b => ¬ a.1 = b.1) ∧ sm_I L = t
theorem ad_mem : ∀ {L : List rd_T} {c : Int32} {a : rd_T}, a ∈ ad_l L c → (∃ b ∈ L, a.1 = b.1) ∨ a.1 = c
  | [], c, a, h => by cases List.mem_singleton.mp h; exact Or.inr rfl
  | b :: l, c, a, h => by
    unfold ad_l at h
    split at h
    · rcases List.mem_cons.mp h with rfl | h
      · exact Or.inl ⟨b, List.mem_cons_self, rfl⟩
      · exact Or.inl ⟨a, List.mem_cons_of_mem _ h, rfl⟩
    · rcases List.mem_cons.mp h with rfl | h
      · exact Or.inl ⟨a, List.mem_cons_self, rfl⟩
      · rcases ad_mem h with ⟨d, d1, d2⟩ | q
        · exact Or.inl ⟨d, List.mem_cons_of_mem _ d1, d2⟩
        · exact Or.inr q
theorem cu_le : ∀ {L : List rd_T}, (∀ a ∈ L, 1 ≤ a.2.toInt) → ∀ b ∈ L, b.2.toInt ≤ sm_I L ∧ 0 ≤ sm_I L
  | a :: l, h, b, hb => by
    show b.2.toInt ≤ a.2.toInt + sm_I l ∧ 0 ≤ a.2.toInt + sm_I l
    have h0 : 0 ≤ sm_I l := by
      cases l with
      | nil => exact Int.le_refl _
      | cons d l => exact (cu_le (fun x hx => h x (List.mem_cons_of_mem _ hx)) d List.mem_cons_self).2
    have h1 := h a List.mem_cons_self
    rcases List.mem_cons.mp hb with rfl | hb
    · omega
    · have := cu_le (fun x hx => h x (List.mem_cons_of_mem _ hx)) b hb
      omega
theorem cu_add : ∀ {L : List rd_T} {t : Nat}, cu_is L t → (0 ≤ c.toInt ∧ c.toInt < 16777216) → t < 64 → cu_is (ad_l L c) (t + 1)
  | [], t, h, hc, _ => by
    have h0 : (0 : Int) = t := h.2.2
    refine ⟨fun a ha => ?_, List.pairwise_singleton _ _, ?_⟩
    · cases List.mem_singleton.mp ha
      exact ⟨hc, by show 1 ≤ (1 : Int32).toInt; decide⟩
    · show (1 : Int32).toInt + 0 = ((t + 1 : Nat) : Int)
      rw [i3_1]
      omega
  | a :: l, t, h, hc, ht => by
    obtain ⟨h1, h2, h3⟩ := h
    have h3' : a.2.toInt + sm_I l = t := h3
    have ha := h1 a List.mem_cons_self
    have hl0 : 0 ≤ sm_I l := by
      cases l with
      | nil => exact Int.le_refl _
      | cons d l => exact (cu_le (fun x hx => (h1 x (List.mem_cons_of_mem _ hx)).2) d List.mem_cons_self).2
    rw [List.pairwise_cons] at h2
    unfold ad_l
    split
    · have e : (a.2 + 1).toInt = a.2.toInt + 1 := by rw [Int32.toInt_add, i3_1, Int.bmod_def]; omega
      refine ⟨fun b hb => ?_, List.pairwise_cons.mpr ⟨h2.1, h2.2⟩, ?_⟩
      · rcases List.mem_cons.mp hb with rfl | hb
        · exact ⟨ha.1, by show 1 ≤ (a.2 + 1).toInt; omega⟩
        · exact h1 b (List.mem_cons_of_mem _ hb)
      · show (a.2 + 1).toInt + sm_I l = ((t + 1 : Nat) : Int)
        omega
    · rename_i hne
      obtain ⟨i1, i2, i3⟩ := cu_add (L := l) (t := (sm_I l).toNat) ⟨fun b hb => h1 b (List.mem_cons_of_mem _ hb), h2.2, by omega⟩ hc (by omega)
      refine ⟨fun b hb => ?_, List.pairwise_cons.mpr ⟨fun b hb => ?_, i2⟩, ?_⟩
      · rcases List.mem_cons.mp hb with rfl | hb
        · exact ha
        · exact i1 b hb
      · rcases ad_mem hb with ⟨d, d1, d2⟩ | q
        · rw [d2]; exact h2.1 d d1
        · rw [q]; exact hne
      · show a.2.toInt + sm_I (ad_l l c) = ((t + 1 : Nat) : Int)
        omega
def ro_is (I : rl_M) (rc rn : Nat) (L : List rd_T) : Prop := ∀ k a, L[k]? = some a → I rc k = a.1 ∧ I rn k = a.2
theorem ro_get {k : Nat} (h : ro_is I rc rn L) (hk : k < L.length) : ∃ a, L[k]? = some a ∧ a ∈ L ∧ I rc k = a.1 ∧ I rn k = a.2 :=
  ⟨L[k], List.getElem?_eq_getElem hk, List.getElem_mem hk, h k _ (List.getElem?_eq_getElem hk)⟩
theorem cu_len {t : Nat} (h : cu_is L t) (ht : t ≤ 64) : L.length ≤ t := by
  have := (sm_t (fun a ha => (h.1 a ha).2) (by rw [h.2.2]; omega)).2
  rw [h.2.2] at this
  omega
theorem ro_set {a : rd_T} (h : ro_is I rc rn L) (hrc : ¬ rc = rn) (hi : L[i]? = some a) (hM : ∀ b, ¬ b = rn → M b = I b) (hn : ∀ k, M rn k = if k = i then a.2 + 1 else I rn k) : ro_is M rc rn (L.set i (a.1, a.2 + 1)) := by
  intro k b hk
  have hlt : i < L.length := (List.getElem?_eq_some_iff.mp hi).1
  rw [List.getElem?_set] at hk
  rw [hM rc hrc, hn]
  by_cases q : i = k
  · subst q
    rw [if_pos rfl, if_pos hlt] at hk
    cases hk
    rw [if_pos rfl]
    exact ⟨(h i a hi).1, rfl⟩
  · rw [if_neg q] at hk
    rw [if_neg (fun z => q z.symm)]
    exact h k b hk
theorem ro_app (h : ro_is I rc rn L) (h1 : ∀ k, k < L.length → M rc k = I rc k ∧ M rn k = I rn k) (h2 : M rc L.length = c ∧ M rn L.length = 1) : ro_is M rc rn (L ++ [(c, 1)]) := by
  intro k b hk
  by_cases q : k < L.length
  · rw [List.getElem?_append_left q] at hk
    rw [(h1 k q).1, (h1 k q).2]
    exact h k b hk
  · have hk2 : k < (L ++ [(c, 1)]).length := (List.getElem?_eq_some_iff.mp hk).1
    rw [List.length_append] at hk2
    have e : k = L.length := by show k = L.length; simp at hk2; omega
    subst e
    rw [List.getElem?_append_right (Nat.le_refl _), Nat.sub_self] at hk
    cases hk
    exact h2
theorem gc_one {t : Nat} (hL : cu_is L t) (ht : t < 64) (hr : ro_is I 77 78 L) (hd : I 76 8 = Int32.ofNat L.length)
    (hk : ∀ M, (∀ b, ¬ b = 76 → ¬ b = 77 → ¬ b = 78 → M b = I b) → (∀ k, ¬ k = 8 → M 76 k = I 76 k) → M 76 8 = Int32.ofNat (ad_l L c).length → ro_is M 77 78 (ad_l L c) → Q (.inl none) (M, J, rf_w r, sh_w N, n)) :
    mc_WP (mc_en 170 [.ref 76, .int c] (I, J, rf_w r, sh_w N, n)) Q := by
  have hlen := cu_len hL (by omega)
  refine bk_170_0 ?_
  have key : ∀ m i, i + m = L.length → (∀ j, j < i → ∀ b, L[j]? = some b → ¬ b.1 = c) → mc_WP (170, 2, [.ref 76, .int c, .int (Int32.ofNat i)], [], (I, J, rf_w r, sh_w N, n), (0, 0)) Q := by
    intro m
    induction m with
    | zero =>
      intro i hi hj
      have hi' : i = L.length := by omega
      subst hi'
      refine bk_170_2 ?_
      rw [hd, on_n (by omega)]
      refine ⟨fun _ => ⟨on_vp (by omega) (by omega), on_vp (by omega) (by omega), ?_⟩, fun q => absurd ((on_le (by omega) (by omega)).mpr (Nat.le_refl _)) q⟩
      have hnew : ad_l L c = L ++ [(c, 1)] := ad_new fun a ha => by
        obtain ⟨j, hj1, hj2⟩ := List.getElem_of_mem ha
        exact hj j hj1 a (by rw [List.getElem?_eq_getElem hj1, hj2])
      refine hk _ (fun b h1 h2 h3 => by rw [up_ne h1, up_ne h3, up_ne h2]) (fun k hk' => by rw [up_nk hk', up_ne (by decide), up_ne (by decide)]) ?_ ?_
      · rw [up_at, hnew, List.length_append, on_1]; rfl
      · rw [hnew]
        refine ro_app hr (fun k hk' => ?_) ?_
        · rw [up_ne (by decide), up_ne (by decide), up_nk (by omega), up_ne (by decide), up_nk (by omega), up_ne (by decide)]
          exact ⟨rfl, rfl⟩
        · rw [up_ne (by decide), up_ne (by decide), up_at, up_ne (by decide), up_at]
          exact ⟨rfl, rfl⟩
    | succ m ih =>
      intro i hi hj
      obtain ⟨a, a1, a2, a3, a4⟩ := ro_get (k := i) hr (by omega)
      refine bk_170_2 ?_
      rw [hd, on_n (k := i) (by omega), a3, a4, on_1 (k := i)]
      refine ⟨fun q => absurd ((on_le (by omega) (by omega)).mp q) (by omega), fun _ => ⟨on_vp (by omega) (by omega), fun q => ih (i + 1) (by omega) (fun j hj' b hb => ?_), fun q => ⟨on_vp (by omega) (by omega), on_vp (by omega) (by omega), ?_⟩⟩⟩
      · by_cases q2 : j = i
        · subst q2; rw [a1] at hb; cases hb; exact q
        · exact hj j (by omega) b hb
      · have hold := ad_old hj a1 (Classical.not_not.mp q)
        refine hk _ (fun b h1 h2 h3 => up_ne h3) (fun k hk' => by rw [up_ne (by decide)]) ?_ ?_
        · rw [up_ne (by decide), hd, hold, List.length_set]
        · rw [hold]
          refine ro_set hr (by decide) a1 (fun b hb => up_ne hb) (fun k => ?_)
          rw [up_row]
  exact key L.length 0 (Nat.zero_add _) (fun j hj => absurd hj (by omega))
def rx_l (pc : rl_A) (y : Nat) : Nat → List rd_T → List rd_T
  | 0, L => L
  | x + 1, L => ad_l (rx_l pc y x L) (pc (8 * y + x))
def ry_l (pc : rl_A) (W : Nat) : Nat → List rd_T
  | 0 => []
  | y + 1 => rx_l pc y W (ry_l pc W y)
theorem rx_cu {pc : rl_A} {y : Nat} (hp : ∀ k, k < 64 → 0 ≤ (pc k).toInt ∧ (pc k).toInt < 16777216) (hy : y < 8) {t : Nat} (hL : cu_is L t) : ∀ x, x ≤ 8 → t + x ≤ 64 → cu_is (rx_l pc y x L) (t + x)
  | 0, _, _ => hL
  | x + 1, h, h2 => cu_add (rx_cu hp hy hL x (by omega) (by omega)) (hp _ (by omega)) (show t + x < 64 by omega)
theorem ry_cu {pc : rl_A} {W : Nat} (hp : ∀ k, k < 64 → 0 ≤ (pc k).toInt ∧ (pc k).toInt < 16777216) (hW : W ≤ 8) : ∀ y, y ≤ 8 → cu_is (ry_l pc W y) (y * W)
  | 0, _ => by rw [Nat.zero_mul]; exact ⟨fun a ha => (by cases ha), List.Pairwise.nil, rfl⟩
  | y + 1, h => by
    rw [Nat.succ_mul]
    have h1 := ry_cu hp hW y (by omega)
    refine rx_cu hp (by omega) h1 W hW ?_
    have : y * W ≤ 7 * 8 := Nat.mul_le_mul (by omega) hW
    omega
theorem rxy_le {W H y x : Nat} (hW : W ≤ 8) (hH : H ≤ 8) (hy : y < H) (hx : x < W) : y * W + x < 64 := by
  have : y * W ≤ 7 * W := Nat.mul_le_mul (by omega) (Nat.le_refl _)
  omega
theorem cc_gather {W H : Nat} (hW : W ≤ 8) (hH : H ≤ 8) (hP : rb_P (I 75) (I 92))
    (hk : ∀ M, (∀ b, ¬ b = 76 → ¬ b = 77 → ¬ b = 78 → M b = I b) → (∀ k, ¬ k = 8 → M 76 k = I 76 k) → M 76 8 = Int32.ofNat (ry_l (I 92) W H).length → ro_is M 77 78 (ry_l (I 92) W H) → Q (.inl none) (M, J, rf_w r, sh_w N, n)) :
    mc_WP (mc_en 169 [.ref 76, .int (Int32.ofNat W), .int (Int32.ofNat H)] (I, J, rf_w r, sh_w N, n)) Q := by
  have hp : ∀ k, k < 64 → 0 ≤ (I 92 k).toInt ∧ (I 92 k).toInt < 16777216 := fun k hk => (hP k hk).2
  let P : List rd_T → rl_M → Prop := fun L M => (∀ b, ¬ b = 76 → ¬ b = 77 → ¬ b = 78 → M b = I b) ∧ (∀ k, ¬ k = 8 → M 76 k = I 76 k) ∧ M 76 8 = Int32.ofNat L.length ∧ ro_is M 77 78 L
  refine bk_169_0 ?_
  refine lp_go (C := fun y (i : rl_M × Value) => (169, 7, [.ref 76, .int (Int32.ofNat W), .int (Int32.ofNat H), .int (Int32.ofNat y), i.2], [], (i.1, J, rf_w r, sh_w N, n), (0, 0))) (P := fun y i => P (ry_l (I 92) W y) i.1) H (mc_up I 76 8 0, .null) ⟨fun b h1 _ _ => up_ne h1, fun k hk' => up_nk hk', (by show mc_up I 76 8 0 76 8 = _; rw [up_at]; rfl), fun k a h => (by cases h)⟩ ?_ ?_
  · intro y hy ⟨M, z⟩ hPy next
    dsimp only at hPy next ⊢
    refine bk_169_7 ⟨fun q => absurd ((on_le (by omega) (by omega)).mp q) (by omega), fun _ => ?_⟩
    refine lp_go (C := fun x (M : rl_M) => (169, 15, [.ref 76, .int (Int32.ofNat W), .int (Int32.ofNat H), .int (Int32.ofNat y), .int (Int32.ofNat x)], [], (M, J, rf_w r, sh_w N, n), (0, 0))) (P := fun x M => P (rx_l (I 92) y x (ry_l (I 92) W y)) M) W M hPy ?_ ?_
    · intro x hx M ⟨m1, m2, m3, m4⟩ nx
      try dsimp only at m1 m2 m3 m4 nx ⊢
      have hcu := rx_cu (y := y) hp (by omega) (ry_cu hp hW y (by omega)) x (by omega) (by have := rxy_le hW hH hy hx; omega)
      refine bk_169_15 ⟨fun q => absurd ((on_le (by omega) (by omega)).mp q) (by omega), fun _ => ?_⟩
      rw [on_8, on_n (by omega), m1 75 (by decide) (by decide) (by decide), (hP (8 * y + x) (by omega)).1]
      refine ⟨on_vp (by omega) (by omega), mc_inl ?_⟩
      refine gc_one hcu (rxy_le hW hH hy hx) m4 m3 fun M2 h1 h2 h3 h4 => ?_
      refine bk_169_36 ?_
      rw [on_1]
      exact nx M2 ⟨fun b q1 q2 q3 => (h1 b q1 q2 q3).trans (m1 b q1 q2 q3), fun k q => (h2 k q).trans (m2 k q), h3, h4⟩
    · intro M hM
      refine bk_169_15 ⟨fun _ => ?_, fun q => absurd ((on_le (by omega) (by omega)).mpr (Nat.le_refl _)) q⟩
      rw [on_1]
      exact next (M, _) hM
  · intro ⟨M, z⟩ ⟨m1, m2, m3, m4⟩
    exact bk_169_7 ⟨fun _ => hk M m1 m2 m3 m4, fun q => absurd ((on_le (by omega) (by omega)).mpr (Nat.le_refl _)) q⟩
end
