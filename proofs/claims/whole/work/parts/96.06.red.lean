section
variable {I M : rl_M} {J : Nat → Nat → Int64} {r N n : Nat} {Q : mc_Q} {L l : List rd_T} {c : Int32} {s m p b d nb : Nat} {bx : Nat → List rd_T}
theorem cc_pixels (hb : b < 16) (hB : bx_at M b s m) (hk : Q (.inl (some (.int (sm_l Prod.snd (sg_l M s m))))) (M, J, rf_w r, sh_w N, n)) :
    mc_WP (mc_en 180 [.ref 76, .int (Int32.ofNat b)] (M, J, rf_w r, sh_w N, n)) Q := by
  obtain ⟨h1, h2, h3, h4⟩ := hB
  have hv : vp_in (Int32.ofNat b) 16 := on_vp (by omega) hb
  refine bk_180_0 ⟨hv, ?_⟩
  rw [on_n (by omega), h1]
  refine lp_go (C := fun j (_ : Unit) => (180, 9, [.ref 76, .int (Int32.ofNat b), .int (sm_l Prod.snd (sg_l M s j)), .int (Int32.ofNat (s + j))], [], (M, J, rf_w r, sh_w N, n), (0, 0))) (P := fun _ _ => True) m () trivial ?_ ?_
  · intro j hj _ _ next
    have nx := next () trivial
    rw [sg_s, sm_snoc] at nx
    refine bk_180_9 ⟨hv, ?_⟩
    rw [on_n (k := b) (by omega), h2, on_n (by omega), on_1]
    exact ⟨fun q => absurd ((on_le (by omega) (by omega)).mp q) (by omega), fun _ => ⟨on_vp (by omega) (by omega), nx⟩⟩
  · intro _ _
    refine bk_180_9 ⟨hv, ?_⟩
    rw [on_n (k := b) (by omega), h2]
    exact ⟨fun _ => hk, fun q => absurd ((on_le (by omega) (by omega)).mpr (Nat.le_refl _)) q⟩
theorem sg_take {j : Nat} (h : j ≤ m) : (sg_l M s m).take j = sg_l M s j := by
  unfold sg_l
  rw [← List.map_take, List.take_range, Nat.min_eq_left h]
theorem sg_drop {j : Nat} (h : j ≤ m) : (sg_l M s m).drop j = sg_l M (s + j) (m - j) := by
  refine List.ext_getElem? fun i => ?_
  rw [List.getElem?_drop]
  by_cases q : i < m - j
  · rw [sg_at q, sg_at (show j + i < m by omega), Nat.add_assoc]
  · rw [List.getElem?_eq_none (by rw [sg_len]; omega), List.getElem?_eq_none (by rw [sg_len]; omega)]
theorem cc_border (hb : b < 16) (hB : bx_at M b s m) (hm : 2 ≤ m) (hk : ∀ t, bd_is (sg_l M s m) t → Q (.inl (some (.int (Int32.ofNat (s + t))))) (M, J, rf_w r, sh_w N, n)) :
    mc_WP (mc_en 179 [.ref 76, .int (Int32.ofNat b)] (M, J, rf_w r, sh_w N, n)) Q := by
  have hB' := hB
  obtain ⟨h1, h2, h3, h4⟩ := hB
  have hv : vp_in (Int32.ofNat b) 16 := on_vp (by omega) hb
  refine bk_179_0 (mc_inl ?_)
  refine cc_pixels hb hB' (bk_179_5 ⟨hv, ?_⟩)
  rw [on_n (by omega), h1]
  refine lp_go (C := fun j (_ : Unit) => (179, 16, [.ref 76, .int (Int32.ofNat b), .int (sm_l Prod.snd (sg_l M s m)), .int (sm_l Prod.snd (sg_l M s j)), .int (Int32.ofNat (s + j))], [], (M, J, rf_w r, sh_w N, n), (0, 0))) (P := fun j _ => ∀ i, 1 ≤ i → i ≤ j → (2 : Int32) * sm_l Prod.snd ((sg_l M s m).take i) < sm_l Prod.snd (sg_l M s m)) (m - 1) () (fun i q1 q2 => absurd q2 (by omega)) ?_ ?_
  · intro j hj _ hP next
    refine bk_179_16 ⟨hv, ?_⟩
    rw [on_n (k := b) (by omega), h2, show (1 : Int32) = Int32.ofNat 1 from rfl, on_sub (by omega), on_n (by omega), show (Int32.ofNat 1 : Int32) = 1 from rfl, on_1]
    have e : sm_l Prod.snd (sg_l M s j) + M 78 (s + j) = sm_l Prod.snd (sg_l M s (j + 1)) := by rw [sg_s, sm_snoc]
    rw [e]
    refine ⟨fun q => absurd ((on_le (by omega) (by omega)).mp q) (by omega), fun _ => ⟨on_vp (by omega) (by omega), fun q => next () (fun i q1 q2 => ?_), fun q => hk (j + 1) ⟨⟨by omega, by rw [sg_len]; omega⟩, fun i q1 q2 => hP i q1 (by omega), Or.inr ?_⟩⟩⟩
    · by_cases q3 : i = j + 1
      · rw [q3, sg_take (by omega)]; exact q
      · exact hP i q1 (by omega)
    · rw [sg_take (by omega)]; exact q
  · intro _ hP
    refine bk_179_16 ⟨hv, ?_⟩
    rw [on_n (k := b) (by omega), h2, show (1 : Int32) = Int32.ofNat 1 from rfl, on_sub (by omega)]
    refine ⟨fun _ => ⟨hv, ?_⟩, fun q => absurd ((on_le (by omega) (by omega)).mpr (by omega)) q⟩
    rw [show s + m - 1 = s + (m - 1) by omega]
    exact hk (m - 1) ⟨⟨by omega, by rw [sg_len]; omega⟩, fun i q1 q2 => hP i q1 (by omega), Or.inl (by rw [sg_len]; omega)⟩
/-- one parting -/
def rd_nx (bx : Nat → List rd_T) (nb w : Nat) (s : List rd_T) (m : Nat) : Nat → List rd_T := fun b => if b = w then s.take m else if b = nb then s.drop m else bx b
def rd_st (nb : Nat) (bx bx' : Nat → List rd_T) : Prop := 2 ≤ (bx (wb_l (fun b => ws_l (bx b)) nb)).length ∧ ∃ s m, s.Perm (bx (wb_l (fun b => ws_l (bx b)) nb)) ∧ so_l (wp_l (bx (wb_l (fun b => ws_l (bx b)) nb))) s ∧ bd_is s m ∧ bx' = rd_nx bx nb (wb_l (fun b => ws_l (bx b)) nb) s m
theorem cc_partbox (h : cb_is M nb bx) (hG : ∀ b, b < nb → rd_G (bx b)) (hn : nb < 16) (hw : b < nb) (hl : 2 ≤ (bx b).length)
    (hk : ∀ M' s m, s.Perm (bx b) → so_l (wp_l (bx b)) s → bd_is s m → cb_is M' (nb + 1) (rd_nx bx nb b s m) → (∀ c, ¬ c = 76 → ¬ c = 77 → ¬ c = 78 → ¬ c = 79 → ¬ c = 80 → M' c = M c) → (∀ k, ¬ k = 9 → M' 76 k = M 76 k) → Q (.inl none) (M', J, rf_w r, sh_w N, n)) :
    mc_WP (mc_en 175 [.ref 76, .int (Int32.ofNat b)] (M, J, rf_w r, sh_w N, n)) Q := by
  obtain ⟨h1, h2, st, ln, h3, h4⟩ := h
  obtain ⟨hB, hS⟩ := h3 b hw
  have hlen : 2 ≤ ln b := by rw [← hS, sg_len] at hl; exact hl
  refine bk_175_0 (mc_inl ?_)
  refine cc_wpart (by omega) hB (bk_175_7 (mc_inl ?_))
  refine cc_sort (by omega) hB (by rw [hS]; exact hG b hw) fun M1 hK hO => bk_175_10 (mc_inl ?_)
  rw [hS] at hO
  have kk : ∀ c, ¬ c = 77 → ¬ c = 78 → M1 c = M c := hK.1
  have hB1 : bx_at M1 b (st b) (ln b) := by
    unfold bx_at
    rw [kk 79 (by decide) (by decide), kk 80 (by decide) (by decide)]
    exact hB
  refine cc_border (by omega) hB1 hlen fun t ht => ?_
  have hb16 : vp_in (Int32.ofNat b) 16 := on_vp (by omega) (by omega)
  have hn16 : vp_in (Int32.ofNat nb) 16 := on_vp (by omega) hn
  have k9 : M1 76 9 = Int32.ofNat nb := by rw [kk 76 (by decide) (by decide)]; exact h1
  have k80 : M1 80 b = Int32.ofNat (st b + ln b) := hB1.2.1
  have t1 := ht.1
  rw [sg_len] at t1
  refine bk_175_15 ?_
  rw [k9, on_n (by omega), on_n (by omega), k80, on_1]
  refine ⟨hn16, hb16, hn16, hb16, ?_⟩
  generalize hM2 : mc_up (mc_up (mc_up (mc_up M1 79 nb (Int32.ofNat (st b + t))) 80 nb (Int32.ofNat (st b + ln b))) 80 b (Int32.ofNat (st b + t))) 76 9 (Int32.ofNat (nb + 1)) = M2
  have s77 : M2 77 = M1 77 := by rw [← hM2, up_ne (by decide), up_ne (by decide), up_ne (by decide), up_ne (by decide)]
  have s78 : M2 78 = M1 78 := by rw [← hM2, up_ne (by decide), up_ne (by decide), up_ne (by decide), up_ne (by decide)]
  have s79 : ∀ k, M2 79 k = if k = nb then Int32.ofNat (st b + t) else M 79 k := fun k => by
    rw [← hM2, up_ne (by decide), up_ne (by decide), up_ne (by decide), up_row]
    dsimp only
    rw [kk 79 (by decide) (by decide)]
  have s80 : ∀ k, M2 80 k = if k = b then Int32.ofNat (st b + t) else if k = nb then Int32.ofNat (st b + ln b) else M 80 k := fun k => by
    rw [← hM2, up_ne (by decide), up_row]
    dsimp only
    rw [up_row]
    dsimp only
    rw [up_ne (by decide), kk 80 (by decide) (by decide)]
  have sgs : ∀ x y, sg_l M2 x y = sg_l M1 x y := fun x y => sg_eq fun j _ => by rw [s77, s78]; exact ⟨rfl, rfl⟩
  refine hk M2 (sg_l M1 (st b) (ln b)) t (by rw [← hS]; exact hK.2.2) hO ht ⟨by rw [← hM2, up_at], by omega, fun c => if c = nb then st b + t else st c, fun c => if c = b then t else if c = nb then ln b - t else ln c, fun c hc => ?_, fun c e hc he hne => ?_⟩ (fun c q1 q2 q3 q4 q5 => by rw [← hM2, up_ne q1, up_ne q5, up_ne q5, up_ne q4]; exact kk c q2 q3) (fun k q => by rw [← hM2, up_nk q, up_ne (by decide), up_ne (by decide), up_ne (by decide), kk 76 (by decide) (by decide)])
  · dsimp only
    unfold rd_nx bx_at
    rw [s79, s80, sgs]
    by_cases q1 : c = b
    · subst q1
      rw [if_neg (by omega), if_neg (by omega), if_pos rfl, if_pos rfl, if_pos rfl, ← sg_take (m := ln c) (by omega)]
      exact ⟨⟨hB.1, rfl, by have := hB.2.2.1; omega, by omega⟩, rfl⟩
    · by_cases q2 : c = nb
      · subst q2
        rw [if_pos rfl, if_pos rfl, if_neg q1, if_pos rfl, if_neg q1, if_pos rfl, if_neg q1, if_pos rfl, ← sg_drop (m := ln b) (by omega), show st b + t + (ln b - t) = st b + ln b by omega]
        exact ⟨⟨rfl, rfl, hB.2.2.1, by omega⟩, rfl⟩
      · rw [if_neg q2, if_neg q2, if_neg q1, if_neg q2, if_neg q1, if_neg q2, if_neg q1, if_neg q2]
        obtain ⟨z1, z2⟩ := h3 c (by omega)
        refine ⟨z1, Eq.trans (sg_eq fun j hj => hK.2.1 _ ?_) z2⟩
        have := h4 b c hw (by omega) (fun q => q1 q.symm)
        omega
  · have v : ∀ c, c < nb + 1 → (c = b ∧ (if c = nb then st b + t else st c) = st b ∧ (if c = b then t else if c = nb then ln b - t else ln c) = t) ∨ (c = nb ∧ (if c = nb then st b + t else st c) = st b + t ∧ (if c = b then t else if c = nb then ln b - t else ln c) = ln b - t) ∨ ((c < nb ∧ ¬ c = b) ∧ (if c = nb then st b + t else st c) = st c ∧ (if c = b then t else if c = nb then ln b - t else ln c) = ln c) := fun c hc => by
      by_cases q1 : c = b
      · subst q1
        exact Or.inl ⟨rfl, if_neg (by omega), if_pos rfl⟩
      · by_cases q2 : c = nb
        · exact Or.inr (Or.inl ⟨q2, if_pos q2, by rw [if_neg q1, if_pos q2]⟩)
        · exact Or.inr (Or.inr ⟨⟨by omega, q1⟩, if_neg q2, by rw [if_neg q1, if_neg q2]⟩)
    dsimp only
    rcases v c hc with ⟨c1, c2, c3⟩ | ⟨c1, c2, c3⟩ | ⟨c1, c2, c3⟩ <;> rcases v e he with ⟨d1, d2, d3⟩ | ⟨d1, d2, d3⟩ | ⟨d1, d2, d3⟩ <;> rw [c2, c3, d2, d3]
    · omega
    · omega
    · have z := h4 b e hw d1.1 (fun q => d1.2 q.symm); omega
    · omega
    · omega
    · have z := h4 b e hw d1.1 (fun q => d1.2 q.symm); omega
    · have z := h4 c b c1.1 hw c1.2; omega
    · have z := h4 c b c1.1 hw c1.2; omega
    · exact h4 c e c1.1 d1.1 hne
end
