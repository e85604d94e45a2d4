section
variable {I M M' M0 : rl_M} {J : Nat → Nat → Int64} {r N n : Nat} {Q : mc_Q} {L D C B : List Int32} {v bf x : Int32} {k b g w m f code nx en a0 : Nat} {s : List Int32 × Nat × Nat}
/-- the reference's bytes, in blocks -/
def om_b (M : rl_M) (s : List Int32 × List Int32) : Prop := om_is M (bs_o s) ∧ M 84 23 = Int32.ofNat s.2.length ∧ (s.2 ≠ [] → M 84 21 = Int32.ofNat s.1.length)
def pm_K (M M' : rl_M) : Prop := (∀ b, ¬ b = 84 → ¬ b = 91 → M' b = M b) ∧ ∀ k, ¬ k = 10 → ¬ k = 21 → ¬ k = 23 → ¬ k = 24 → ¬ k = 25 → M' 84 k = M 84 k
theorem pm_K.tr {M2 : rl_M} (h : pm_K M M') (h2 : pm_K M' M2) : pm_K M M2 := ⟨fun b q1 q2 => (h2.1 b q1 q2).trans (h.1 b q1 q2), fun k q1 q2 q3 q4 q5 => (h2.2 k q1 q2 q3 q4 q5).trans (h.2 k q1 q2 q3 q4 q5)⟩
theorem bs_ne (h : B ≠ []) : bs_o (C, B) = C ++ [Int32.ofNat B.length] ++ B := by
  cases B with
  | nil => exact absurd rfl h
  | cons b B => rfl
/-- a byte more in the block -/
theorem om_more (h : om_b M (C, B)) (hB : B ≠ []) (h20 : B.length < 20) (hl : (bs_o (C, B)).length < 800) (e10 : M' 84 10 = M 84 10 + 1) (e23 : M' 84 23 = M 84 23 + 1) (e21 : M' 84 21 = M 84 21) (e91 : ∀ k, M' 91 k = if k = C.length then M 84 23 + 1 else if k = (bs_o (C, B)).length then x else M 91 k) : om_b M' (bs_p (C, B) x) := by
  obtain ⟨⟨h1, h2⟩, h3, h4⟩ := h
  rw [bs_ne hB] at h1 h2 hl e91
  rw [bp_n (by omega)]
  have hBx : B ++ [x] ≠ [] := by simp
  have lenO : (C ++ [Int32.ofNat B.length] ++ B).length = C.length + 1 + B.length := by rw [List.length_append, List.length_append, List.length_singleton]
  rw [lenO] at h1 hl e91
  have h4' := h4 hB
  dsimp only at h3 h4'
  refine ⟨⟨?_, fun k a hk => ?_⟩, ?_, fun _ => ?_⟩
  · rw [bs_ne hBx, e10, h1, on_1]
    congr 1
    rw [List.length_append, List.length_append, List.length_append, List.length_singleton, List.length_singleton]
    omega
  · rw [bs_ne hBx] at hk
    rw [e91 k]
    have hlt := (List.getElem?_eq_some_iff.mp hk).1
    rw [List.length_append, List.length_append, List.length_append, List.length_singleton, List.length_singleton] at hlt
    by_cases q1 : k = C.length
    · rw [if_pos q1, h3, on_1]
      rw [q1, List.append_assoc, List.getElem?_append_right (Nat.le_refl _), Nat.sub_self] at hk
      cases hk
      rw [List.length_append, List.length_singleton]
    · rw [if_neg q1]
      by_cases q2 : k = C.length + 1 + B.length
      · rw [if_pos q2]
        rw [← List.append_assoc, List.getElem?_append_right (by rw [List.length_append, List.length_append, List.length_singleton]; omega)] at hk
        rw [List.length_append, List.length_append, List.length_singleton, q2, Nat.sub_self] at hk
        cases hk
        rfl
      · rw [if_neg q2]
        refine h2 k a ?_
        by_cases q3 : k < C.length
        · rw [List.append_assoc, List.getElem?_append_left q3] at hk ⊢
          exact hk
        · rw [← List.append_assoc, List.getElem?_append_left (by rw [List.length_append, List.length_append, List.length_singleton]; omega), List.getElem?_append_right (by rw [List.length_append, List.length_singleton]; omega), List.length_append, List.length_singleton] at hk
          rw [List.getElem?_append_right (by rw [List.length_append, List.length_singleton]; omega), List.length_append, List.length_singleton]
          exact hk
  · rw [e23, h3, on_1]
    show _ = Int32.ofNat (B ++ [x]).length
    rw [List.length_append, List.length_singleton]
  · rw [e21]; exact h4'
/-- a new block -/
theorem om_new (h : om_b M (C, B)) (hB : B = [] ∨ B.length = 20) (hl : (bs_o (C, B)).length + 1 < 800) (e10 : M' 84 10 = Int32.ofNat ((bs_o (C, B)).length + 2)) (e23 : M' 84 23 = 1) (e21 : M' 84 21 = Int32.ofNat (bs_o (C, B)).length) (e91 : ∀ k, M' 91 k = if k = (bs_o (C, B)).length then 1 else if k = (bs_o (C, B)).length + 1 then x else M 91 k) : om_b M' (bs_p (C, B) x) := by
  obtain ⟨⟨h1, h2⟩, h3, h4⟩ := h
  have e : bs_p (C, B) x = (bs_o (C, B), [x]) := by
    rcases hB with q | q
    · subst q
      rw [bp_n (by decide)]
      rfl
    · rw [bp_f q, bs_ne (fun z => by rw [z] at q; exact absurd q (by decide)), q]
  rw [e]
  refine ⟨⟨?_, fun k a hk => ?_⟩, e23, fun _ => e21⟩
  · rw [bs_ne (by simp), e10]
    congr 1
    rw [List.length_append, List.length_append, List.length_singleton, List.length_singleton]
  · rw [bs_ne (by simp)] at hk
    rw [e91 k]
    have hlt := (List.getElem?_eq_some_iff.mp hk).1
    rw [List.length_append, List.length_append, List.length_singleton, List.length_singleton] at hlt
    by_cases q1 : k = (bs_o (C, B)).length
    · rw [if_pos q1]
      rw [q1, List.append_assoc, List.getElem?_append_right (Nat.le_refl _), Nat.sub_self] at hk
      cases hk
      rfl
    · rw [if_neg q1]
      by_cases q2 : k = (bs_o (C, B)).length + 1
      · rw [if_pos q2]
        rw [List.getElem?_append_right (by rw [List.length_append, List.length_singleton]; omega), List.length_append, List.length_singleton, q2, Nat.sub_self] at hk
        cases hk
        rfl
      · rw [if_neg q2]
        refine h2 k a ?_
        rw [List.append_assoc, List.getElem?_append_left (by omega)] at hk
        exact hk
def pm_is (M : rl_M) (L : List Int32) (s : List Int32 × Nat × Nat) : Prop := om_b M (bs_f L s.1) ∧ M 84 24 = Int32.ofNat s.2.1 ∧ M 84 25 = Int32.ofNat s.2.2
theorem bs_fl (L D : List Int32) : (bs_f L D).2.length ≤ 20 := (bs_len D L [] (by decide)).1
theorem cm_data (h : om_b M (bs_f L D)) (hl : (bs_o (bs_f L D)).length + 1 < 800) (hk : ∀ M', pm_K M M' → om_b M' (bs_f L (D ++ [x])) → M' 84 24 = M 84 24 → M' 84 25 = M 84 25 → Q (.inl none) (M', J, rf_w r, sh_w N, n)) :
    mc_WP (mc_en 83 [.ref 84, .int x] (M, J, rf_w r, sh_w N, n)) Q := by
  have h20 := bs_fl L D
  rw [bs_snoc] at hk
  generalize hcb : bs_f L D = cb at *
  obtain ⟨C, B⟩ := cb
  dsimp only at h20
  obtain ⟨⟨h1, h2⟩, h3, h4⟩ := id h
  dsimp only at h3 h4
  refine bk_83_0 ?_
  rw [h3, h1, on_n (by omega), on_1 (k := (bs_o (C, B)).length), on_n (by omega), on_1 (k := (bs_o (C, B)).length + 1), on_1 (k := B.length)]
  have v0 : vp_in (Int32.ofNat (bs_o (C, B)).length) 800 := on_vp (by omega) (by omega)
  have v1 : vp_in (Int32.ofNat ((bs_o (C, B)).length + 1)) 800 := on_vp (by omega) (by omega)
  refine ⟨fun q => ⟨fun q2 => ?_, fun q2 => ?_⟩, fun q => ?_⟩
  · have hB : B ≠ [] := fun z => by rw [z] at q2; exact q2 rfl
    have hlt : B.length < 20 := by
      have : ¬ B.length = 20 := fun z => q (by rw [z]; rfl)
      omega
    have hat := h4 hB
    have hCl : C.length < (bs_o (C, B)).length := by rw [bs_ne hB, List.length_append, List.length_append, List.length_singleton]; omega
    rw [hat, on_n (by omega)]
    refine ⟨v0, on_vp (by omega) (by omega), hk _ ⟨fun b q3 q4 => by rw [up_ne q4, up_ne q3, up_ne q3, up_ne q4], fun k q3 q4 q5 q6 q7 => by rw [up_ne (by decide), up_nk q5, up_nk q3, up_ne (by decide)]⟩ (om_more (x := x) h hB hlt (by omega) ?_ ?_ ?_ fun k => ?_) ?_ ?_⟩
    · rw [up_ne (by decide), up_nk (by decide), up_at, h1, on_1]
    · rw [up_ne (by decide), up_at, h3, on_1]
    · rw [up_ne (by decide), up_nk (by decide), up_nk (by decide), up_ne (by decide)]
    · rw [up_row]
      dsimp only
      rw [up_ne (by decide), up_ne (by decide), up_row, h3, on_1]
    · rw [up_ne (by decide), up_nk (by decide), up_nk (by decide), up_ne (by decide)]
    · rw [up_ne (by decide), up_nk (by decide), up_nk (by decide), up_ne (by decide)]
  · have q0 : B = [] := by
      have z := Classical.not_not.mp q2
      rw [show (0 : Int32) = Int32.ofNat 0 from rfl, on_eq (by omega) (by omega)] at z
      exact List.length_eq_zero_iff.mp z
    have e1 : Int32.ofNat (B.length + 1) = 1 := by rw [q0]; rfl
    rw [e1]
    refine ⟨v0, v1, v0, hk _ ⟨fun b q3 q4 => by rw [up_ne q4, up_ne q3, up_ne q3, up_ne q4, up_ne q3, up_ne q4, up_ne q3], fun k q3 q4 q5 q6 q7 => by rw [up_ne (by decide), up_nk q5, up_nk q3, up_ne (by decide), up_nk q3, up_ne (by decide), up_nk q4]⟩ (om_new (x := x) h (Or.inl q0) hl ?_ ?_ ?_ fun k => ?_) ?_ ?_⟩
    · rw [up_ne (by decide), up_nk (by decide), up_at]
    · rw [up_ne (by decide), up_at]
    · rw [up_ne (by decide), up_nk (by decide), up_nk (by decide), up_ne (by decide), up_nk (by decide), up_ne (by decide), up_at]
    · rw [up_row]
      dsimp only
      rw [up_ne (by decide), up_ne (by decide), up_row]
      dsimp only
      rw [up_ne (by decide), up_row]
      dsimp only
      rw [up_ne (by decide)]
      by_cases z : k = (bs_o (C, B)).length
      · rw [if_pos z, if_pos z]
      · rw [if_neg z, if_neg z, if_neg z]
    · rw [up_ne (by decide), up_nk (by decide), up_nk (by decide), up_ne (by decide), up_nk (by decide), up_ne (by decide), up_nk (by decide)]
    · rw [up_ne (by decide), up_nk (by decide), up_nk (by decide), up_ne (by decide), up_nk (by decide), up_ne (by decide), up_nk (by decide)]
  · have q0 : B.length = 20 := by
      have z := Classical.not_not.mp q
      rw [show (20 : Int32) = Int32.ofNat 20 from rfl, on_eq (by omega) (by omega)] at z
      exact z
    rw [show (0 : Int32) + 1 = 1 from rfl]
    refine ⟨v0, v1, v0, hk _ ⟨fun b q3 q4 => by rw [up_ne q4, up_ne q3, up_ne q3, up_ne q4, up_ne q3, up_ne q4, up_ne q3, up_ne q3], fun k q3 q4 q5 q6 q7 => by rw [up_ne (by decide), up_nk q5, up_nk q3, up_ne (by decide), up_nk q3, up_ne (by decide), up_nk q4, up_nk q5]⟩ (om_new (x := x) h (Or.inr q0) hl ?_ ?_ ?_ fun k => ?_) ?_ ?_⟩
    · rw [up_ne (by decide), up_nk (by decide), up_at]
    · rw [up_ne (by decide), up_at]
    · rw [up_ne (by decide), up_nk (by decide), up_nk (by decide), up_ne (by decide), up_nk (by decide), up_ne (by decide), up_at]
    · rw [up_row]
      dsimp only
      rw [up_ne (by decide), up_ne (by decide), up_row]
      dsimp only
      rw [up_ne (by decide), up_row]
      dsimp only
      rw [up_ne (by decide), up_ne (by decide)]
      by_cases z : k = (bs_o (C, B)).length
      · rw [if_pos z, if_pos z]
      · rw [if_neg z, if_neg z, if_neg z]
    · rw [up_ne (by decide), up_nk (by decide), up_nk (by decide), up_ne (by decide), up_nk (by decide), up_ne (by decide), up_nk (by decide), up_nk (by decide)]
    · rw [up_ne (by decide), up_nk (by decide), up_nk (by decide), up_ne (by decide), up_nk (by decide), up_ne (by decide), up_nk (by decide), up_nk (by decide)]
end
