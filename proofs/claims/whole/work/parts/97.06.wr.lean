section
variable {I M M' M0 : rl_M} {J : Nat → Nat → Int64} {r N n : Nat} {Q : mc_Q} {L D C B : List Int32} {v bf x x1 : Int32} {k b g w m f code nx en a0 c t : Nat} {s : List Int32 × Nat × Nat}
theorem bn_sh8 (h : t < 65536) : Int32.ofNat t >>> ((8 : Int32) &&& 31) = Int32.ofNat (t / 256) ∧ Int32.ofNat t &&& (255 : Int32) = Int32.ofNat (t % 256) := by
  have ht : (Int32.ofNat t).toInt = t := on_t (by omega)
  constructor
  · rw [← Int32.toInt_inj, bn_shr _ _ 8 (by decide) (by omega), ht, on_t (by omega)]
    rfl
  · rw [← Int32.toInt_inj, bn_and _ (by omega), ht, on_t (by omega)]
    rfl
set_option maxHeartbeats 1000000 in
theorem cm_flush (h : om_b M (bs_f L D)) (hl : (bs_o (bs_f L D)).length + 1 < 800) (g24 : M 84 24 = Int32.ofNat t) (g25 : M 84 25 = Int32.ofNat c) (ht : t < 65536) (hc : 8 ≤ c ∧ c < 16) (hk : ∀ M', pm_K M M' → om_b M' (bs_f L (D ++ [Int32.ofNat (t % 256)])) → M' 84 24 = Int32.ofNat (t / 256) → M' 84 25 = Int32.ofNat (c - 8) → mc_WP (84, 28, [.ref 84, .int x1], [], (M', J, rf_w r, sh_w N, n), (0, 0)) Q) :
    mc_WP (84, 28, [.ref 84, .int x1], [], (M, J, rf_w r, sh_w N, n), (0, 0)) Q := by
  have h20 := bs_fl L D
  obtain ⟨es, ea⟩ := bn_sh8 ht
  have ed : Int32.ofNat c - 8 = Int32.ofNat (c - 8) := on_sub (m := 8) (by omega)
  generalize hx : Int32.ofNat (t % 256) = x at *
  rw [bs_snoc] at hk
  generalize hcb : bs_f L D = cb at *
  obtain ⟨C, B⟩ := cb
  dsimp only at h20
  obtain ⟨⟨h1, h2⟩, h3, h4⟩ := id h
  dsimp only at h3 h4
  refine bk_84_28 ?_
  rw [h3, h1, g24, g25, on_n (by omega), on_1 (k := (bs_o (C, B)).length), on_n (by omega), on_1 (k := (bs_o (C, B)).length + 1), on_1 (k := B.length)]
  rw [ea, es, ed]
  have v0 : vp_in (Int32.ofNat (bs_o (C, B)).length) 800 := on_vp (by omega) (by omega)
  have v1 : vp_in (Int32.ofNat ((bs_o (C, B)).length + 1)) 800 := on_vp (by omega) (by omega)
  refine ⟨fun q => absurd ((on_le (m := 7) (by omega) (by omega)).mp q) (by omega), fun _ => ?_⟩
  refine ⟨fun q => ⟨fun q2 => ?_, fun q2 => ?_⟩, fun q => ?_⟩
  · have hB : B ≠ [] := fun z => by rw [z] at q2; exact q2 rfl
    have hlt : B.length < 20 := by
      have : ¬ B.length = 20 := fun z => q (by rw [z]; rfl)
      omega
    have hat := h4 hB
    have hCl : C.length < (bs_o (C, B)).length := by rw [bs_ne hB, List.length_append, List.length_append, List.length_singleton]; omega
    rw [hat, on_n (by omega)]
    refine ⟨v0, on_vp (by omega) (by omega), hk _ ⟨fun b q3 q4 => by rw [up_ne q3, up_ne q3, up_ne q4, up_ne q3, up_ne q3, up_ne q4], fun k q3 q4 q5 q6 q7 => by rw [up_nk q7, up_nk q6, up_ne (by decide), up_nk q5, up_nk q3, up_ne (by decide)]⟩ (om_more (x := x) h hB hlt (by omega) ?_ ?_ ?_ fun k => ?_) (by rw [up_nk (by decide), up_at]) (by rw [up_at])⟩
    · rw [up_nk (by decide), up_nk (by decide), up_ne (by decide), up_nk (by decide), up_at, h1, on_1]
    · rw [up_nk (by decide), up_nk (by decide), up_ne (by decide), up_at, h3, on_1]
    · rw [up_nk (by decide), up_nk (by decide), up_ne (by decide), up_nk (by decide), up_nk (by decide), up_ne (by decide)]
    · rw [up_ne (by decide), up_ne (by decide), up_row]
      dsimp only
      rw [up_ne (by decide), up_ne (by decide), up_row, h3, on_1]
  · have q0 : B = [] := by
      have z := Classical.not_not.mp q2
      rw [show (0 : Int32) = Int32.ofNat 0 from rfl, on_eq (by omega) (by omega)] at z
      exact List.length_eq_zero_iff.mp z
    have e1 : Int32.ofNat (B.length + 1) = 1 := by rw [q0]; rfl
    rw [e1]
    refine ⟨v0, v1, v0, hk _ ⟨fun b q3 q4 => by rw [up_ne q3, up_ne q3, up_ne q4, up_ne q3, up_ne q3, up_ne q4, up_ne q3, up_ne q4, up_ne q3], fun k q3 q4 q5 q6 q7 => by rw [up_nk q7, up_nk q6, up_ne (by decide), up_nk q5, up_nk q3, up_ne (by decide), up_nk q3, up_ne (by decide), up_nk q4]⟩ (om_new (x := x) h (Or.inl q0) hl ?_ ?_ ?_ fun k => ?_) (by rw [up_nk (by decide), up_at]) (by rw [up_at])⟩
    · rw [up_nk (by decide), up_nk (by decide), up_ne (by decide), up_nk (by decide), up_at]
    · rw [up_nk (by decide), up_nk (by decide), up_ne (by decide), up_at]
    · rw [up_nk (by decide), up_nk (by decide), up_ne (by decide), up_nk (by decide), up_nk (by decide), up_ne (by decide), up_nk (by decide), up_ne (by decide), up_at]
    · rw [up_ne (by decide), up_ne (by decide), up_row]
      dsimp only
      rw [up_ne (by decide), up_ne (by decide), up_row]
      dsimp only
      rw [up_ne (by decide), up_row]
      dsimp only
      rw [up_ne (by decide)]
      by_cases z : k = (bs_o (C, B)).length
      · rw [if_pos z, if_pos z]
      · rw [if_neg z, if_neg z, if_neg z]
  · have q0 : B.length = 20 := by
      have z := Classical.not_not.mp q
      rw [show (20 : Int32) = Int32.ofNat 20 from rfl, on_eq (by omega) (by omega)] at z
      exact z
    rw [show (0 : Int32) + 1 = 1 from rfl]
    refine ⟨v0, v1, v0, hk _ ⟨fun b q3 q4 => by rw [up_ne q3, up_ne q3, up_ne q4, up_ne q3, up_ne q3, up_ne q4, up_ne q3, up_ne q4, up_ne q3, up_ne q3], fun k q3 q4 q5 q6 q7 => by rw [up_nk q7, up_nk q6, up_ne (by decide), up_nk q5, up_nk q3, up_ne (by decide), up_nk q3, up_ne (by decide), up_nk q4, up_nk q5]⟩ (om_new (x := x) h (Or.inr q0) hl ?_ ?_ ?_ fun k => ?_) (by rw [up_nk (by decide), up_at]) (by rw [up_at])⟩
    · rw [up_nk (by decide), up_nk (by decide), up_ne (by decide), up_nk (by decide), up_at]
    · rw [up_nk (by decide), up_nk (by decide), up_ne (by decide), up_at]
    · rw [up_nk (by decide), up_nk (by decide), up_ne (by decide), up_nk (by decide), up_nk (by decide), up_ne (by decide), up_nk (by decide), up_ne (by decide), up_at]
    · rw [up_ne (by decide), up_ne (by decide), up_row]
      dsimp only
      rw [up_ne (by decide), up_ne (by decide), up_row]
      dsimp only
      rw [up_ne (by decide), up_row]
      dsimp only
      rw [up_ne (by decide), up_ne (by decide)]
      by_cases z : k = (bs_o (C, B)).length
      · rw [if_pos z, if_pos z]
      · rw [if_neg z, if_neg z, if_neg z]
/-- a code more -/
theorem cm_code (h : pm_is M L s) (hok : pk_ok s) (hc : code < 64) (h19 : M 84 19 = Int32.ofNat (en - 1)) (h18 : M 84 18 = Int32.ofNat nx) (h20 : M 84 20 = bf) (hbf : bf = -1 ∨ 0 ≤ bf.toInt) (he : 1 ≤ en ∧ en < 64) (hn : nx ≤ 64) (hcw : code < 2 ^ wd_n (gr_v en nx bf)) (hl : (bs_o (bs_f L s.1)).length + 1 < 800)
    (hk : ∀ M', pm_K M M' → pm_is M' L (pk_m s code (wd_n (gr_v en nx bf))) → Q (.inl none) (M', J, rf_w r, sh_w N, n)) :
    mc_WP (mc_en 84 [.ref 84, .int (Int32.ofNat code)] (M, J, rf_w r, sh_w N, n)) Q := by
  obtain ⟨D, v, c⟩ := s
  obtain ⟨h1, h2, h3⟩ := h
  obtain ⟨o1, o2⟩ := hok
  dsimp only at h1 h2 h3 o1 o2 hl
  have hw6 := wd_6 (gr_v en nx bf)
  refine bk_84_0 ?_
  rw [h2, h3, bt_or o1 o2 hc]
  refine mc_inl ?_
  generalize hM1 : mc_up M 84 24 (Int32.ofNat (v + code * 2 ^ c)) = M1
  have k1 : ∀ k, ¬ k = 24 → M1 84 k = M 84 k := fun k q => by rw [← hM1, up_nk q]
  have r1 : ∀ b, ¬ b = 84 → M1 b = M b := fun b q => by rw [← hM1, up_ne q]
  refine cm_width (en := en) (nx := nx) (bf := bf) (by rw [k1 19 (by decide)]; exact h19) (by rw [k1 18 (by decide)]; exact h18) (by rw [k1 20 (by decide)]; exact h20) hbf he hn ?_
  refine bk_84_24 ?_
  rw [← Int32.ofNat_add]
  generalize hw : wd_n (gr_v en nx bf) = w at *
  generalize hM2 : mc_up M1 84 25 (Int32.ofNat (c + w)) = M2
  have k2 : ∀ k, ¬ k = 24 → ¬ k = 25 → M2 84 k = M 84 k := fun k q q' => by rw [← hM2, up_nk q', k1 k q]
  have r2 : ∀ b, ¬ b = 84 → M2 b = M b := fun b q => by rw [← hM2, up_ne q, r1 b q]
  have e24 : M2 84 24 = Int32.ofNat (v + code * 2 ^ c) := by rw [← hM2, up_nk (by decide), ← hM1, up_at]
  have e25 : M2 84 25 = Int32.ofNat (c + w) := by rw [← hM2, up_at]
  have hb2 : om_b M2 (bs_f L D) := by
    obtain ⟨⟨a1, a2⟩, a3, a4⟩ := h1
    refine ⟨⟨by rw [k2 10 (by decide) (by decide)]; exact a1, fun k a hk' => by rw [r2 91 (by decide)]; exact a2 k a hk'⟩, by rw [k2 23 (by decide) (by decide)]; exact a3, fun q => by rw [k2 21 (by decide) (by decide)]; exact a4 q⟩
  have hK2 : pm_K M M2 := ⟨fun b q1 _ => r2 b q1, fun k q1 q2 q3 q4 q5 => k2 k q4 q5⟩
  have hb : v + code * 2 ^ c < 65536 := by
    have h8 : code * 2 ^ c ≤ 63 * 128 := Nat.mul_le_mul (by omega) (by have : 2 ^ c ≤ 2 ^ 7 := Nat.pow_le_pow_right (by decide) (by omega); exact this)
    have : 2 ^ c ≤ 2 ^ 7 := Nat.pow_le_pow_right (by decide) (by omega)
    have e : (2 : Nat) ^ 7 = 128 := rfl
    omega
  unfold pk_m at hk
  dsimp only at hk
  by_cases q : c + w < 8
  · rw [if_pos q] at hk
    refine bk_84_28 ?_
    rw [e25]
    exact ⟨fun _ => hk M2 hK2 ⟨hb2, e24, e25⟩, fun z => absurd ((on_le (m := 7) (by omega) (by omega)).mpr (by omega)) z⟩
  · rw [if_neg q] at hk
    refine cm_flush hb2 hl e24 e25 hb (by omega) fun M3 k3 b3 f24 f25 => bk_84_28 ?_
    rw [f25]
    exact ⟨fun _ => hk M3 (hK2.tr k3) ⟨b3, f24, f25⟩, fun z => absurd ((on_le (m := 7) (by omega) (by omega)).mpr (by omega)) z⟩
end
