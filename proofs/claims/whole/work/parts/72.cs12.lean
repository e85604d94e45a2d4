section
variable {I : rl_M} {J : Nat → Nat → Int64} {r N n : Nat} {Q : mc_Q} {x4 : Int32} {x5 x6 : Value} {u : mc_U} {x1 d e z w : Int32} {f k : Nat}
theorem up_4 {c : rl_M} {a b k0 k1 k2 k3 j : Nat} (h : ¬ b = a ∨ (¬ j = k0 ∧ ¬ j = k1 ∧ ¬ j = k2 ∧ ¬ j = k3)) : mc_up (mc_up (mc_up (mc_up c a k0 d) a k1 e) a k2 z) a k3 w b j = c b j := by
  rcases h with h | ⟨h0, h1, h2, h3⟩
  · rw [up_ne h, up_ne h, up_ne h, up_ne h]
  · rw [up_nk h3, up_nk h2, up_nk h1, up_nk h0]
theorem rl_I.set (h : rl_I r I) (hc : fr_in (I 84 1) x1) (hs : se_in (I 85) x1 d e z) (hw : w = 0 ∨ w = 1) :
    rl_I r (mc_up (mc_up (mc_up (mc_up (mc_up (mc_up (mc_up (mc_up (mc_up I (r + 4 + 4 * x1.toNatClampNeg) 6 d) (r + 4 + 4 * x1.toNatClampNeg) 7 e) (r + 4 + 4 * x1.toNatClampNeg) 8 z) (r + 4 + 4 * x1.toNatClampNeg) 9 w) 84 0 0) 85 (9 * (x1.toNatClampNeg + 1) + 5) d) 85 (9 * (x1.toNatClampNeg + 1) + 6) e) 85 (9 * (x1.toNatClampNeg + 1) + 7) z) 85 (9 * (x1.toNatClampNeg + 1) + 8) w) := by
  obtain ⟨hr, hR, hB, hP, hC, hK⟩ := h
  have hb := is_Rb hr
  obtain ⟨g1, g2, g3, g4⟩ := fr_f hR hc
  have hfr := hc
  unfold fr_in at hfr
  have row : ∀ a, ¬ a = 85 → ¬ a = 84 → (a < 14 ∨ 54 ≤ a) → mc_up (mc_up (mc_up (mc_up (mc_up (mc_up (mc_up (mc_up (mc_up I (r + 4 + 4 * x1.toNatClampNeg) 6 d) (r + 4 + 4 * x1.toNatClampNeg) 7 e) (r + 4 + 4 * x1.toNatClampNeg) 8 z) (r + 4 + 4 * x1.toNatClampNeg) 9 w) 84 0 0) 85 (9 * (x1.toNatClampNeg + 1) + 5) d) 85 (9 * (x1.toNatClampNeg + 1) + 6) e) 85 (9 * (x1.toNatClampNeg + 1) + 7) z) 85 (9 * (x1.toNatClampNeg + 1) + 8) w a = I a := by
    intro a h1 h2 h3
    have h4 : ¬ a = r + 4 + 4 * x1.toNatClampNeg := by omega
    rw [up_ne h1, up_ne h1, up_ne h1, up_ne h1, up_ne h2, up_ne h4, up_ne h4, up_ne h4, up_ne h4]
  have r84 : ∀ k, ¬ k = 0 → mc_up (mc_up (mc_up (mc_up (mc_up (mc_up (mc_up (mc_up (mc_up I (r + 4 + 4 * x1.toNatClampNeg) 6 d) (r + 4 + 4 * x1.toNatClampNeg) 7 e) (r + 4 + 4 * x1.toNatClampNeg) 8 z) (r + 4 + 4 * x1.toNatClampNeg) 9 w) 84 0 0) 85 (9 * (x1.toNatClampNeg + 1) + 5) d) 85 (9 * (x1.toNatClampNeg + 1) + 6) e) 85 (9 * (x1.toNatClampNeg + 1) + 7) z) 85 (9 * (x1.toNatClampNeg + 1) + 8) w 84 k = I 84 k := by
    intro k hk
    have h4 : ¬ 84 = r + 4 + 4 * x1.toNatClampNeg := by omega
    rw [up_ne (by decide), up_ne (by decide), up_ne (by decide), up_ne (by decide), up_nk hk, up_ne h4, up_ne h4, up_ne h4, up_ne h4]
  refine ⟨hr, ?_, ?_, ?_, ?_, ?_⟩
  · rw [r84 1 (by decide), row 86 (by decide) (by decide) (by decide), row 87 (by decide) (by decide) (by decide)]
    rw [up_v (by omega), up_v (by omega), up_v (by omega), up_v (by omega), up_v (by omega)]
    rw [show r + 4 + 4 * x1.toNatClampNeg = r + (4 + 4 * x1.toNatClampNeg) by omega, up_vo (by omega), up_vo (by omega), up_vo (by omega), up_vo (by omega)]
    refine hR.setting g1 (by omega) (fun o k hk => up_4 (by omega)) (fun k hk => ?_) (fun k hk => ?_) ?_
    · rw [up_4 (by omega), up_ne (by decide), up_ne (by omega), up_ne (by omega), up_ne (by omega), up_ne (by omega)]
    · match k, hk with
      | 0, _ => rw [up_nk (by omega), up_nk (by omega), up_nk (by omega), up_at, up_nk (by omega), up_nk (by omega), up_nk (by omega)]; exact up_at.symm
      | 1, _ => rw [up_nk (by omega), up_nk (by omega), up_at, up_nk (by omega), up_nk (by omega)]; exact up_at.symm
      | 2, _ => rw [up_nk (by omega), up_at, up_nk (by omega)]; exact up_at.symm
      | 3, _ => rw [up_at]; exact up_at.symm
    · have e5 : ∀ c : rl_M, mc_up (mc_up (mc_up (mc_up c 85 (9 * (x1.toNatClampNeg + 1) + 5) d) 85 (9 * (x1.toNatClampNeg + 1) + 6) e) 85 (9 * (x1.toNatClampNeg + 1) + 7) z) 85 (9 * (x1.toNatClampNeg + 1) + 8) w 85 (9 * (x1.toNatClampNeg + 1) + 5) = d := fun c => by rw [up_nk (by omega), up_nk (by omega), up_nk (by omega), up_at]
      have e6 : ∀ c : rl_M, mc_up (mc_up (mc_up (mc_up c 85 (9 * (x1.toNatClampNeg + 1) + 5) d) 85 (9 * (x1.toNatClampNeg + 1) + 6) e) 85 (9 * (x1.toNatClampNeg + 1) + 7) z) 85 (9 * (x1.toNatClampNeg + 1) + 8) w 85 (9 * (x1.toNatClampNeg + 1) + 6) = e := fun c => by rw [up_nk (by omega), up_nk (by omega), up_at]
      have e7 : ∀ c : rl_M, mc_up (mc_up (mc_up (mc_up c 85 (9 * (x1.toNatClampNeg + 1) + 5) d) 85 (9 * (x1.toNatClampNeg + 1) + 6) e) 85 (9 * (x1.toNatClampNeg + 1) + 7) z) 85 (9 * (x1.toNatClampNeg + 1) + 8) w 85 (9 * (x1.toNatClampNeg + 1) + 7) = z := fun c => by rw [up_nk (by omega), up_at]
      rw [e5, e6, e7, up_at]
      exact ⟨hs.1, hs.2.1, hs.2.2, hw⟩
  · rw [r84 10 (by decide), row 54 (by decide) (by decide) (by decide), row 55 (by decide) (by decide) (by decide), row 91 (by decide) (by decide) (by decide)]; exact hB
  · rw [row 75 (by decide) (by decide) (by decide), row 92 (by decide) (by decide) (by decide)]; exact hP
  · rw [row 12 (by decide) (by decide) (by decide), row 93 (by decide) (by decide) (by decide)]; exact hC
  · refine rb_K.up (rb_K.up (rb_K.up (rb_K.up (rb_K.up (rb_K.up (rb_K.up (rb_K.up (rb_K.up hK (Or.inr (by decide))) (Or.inr (by decide))) (Or.inr (by decide))) (Or.inr (by decide))) (Or.inl (by decide))) (Or.inl (by decide))) (Or.inl (by decide))) (Or.inl (by decide))) (Or.inl (by decide))
theorem lc_set (hI : rl_I r I) (hN : N ≤ 3074) (hx : 0 ≤ x4.toInt ∧ x4.toInt + 6 ≤ N) (hu : u.1 + 3 ≤ 601024 ∧ u.2 + 18 ≤ 7293000) (hn : lw_nx N x4 u Q) : mc_WP (42, 448, [.ref 1, .ref 10, .ref 84, .ref 105, .int x4, x5, x6], [], (I, J, rf_w r, sh_w N, n), u) Q := by
  have hI' := hI
  obtain ⟨hr, hR, hB, hP, hC, hK⟩ := hI
  have hb := is_Rb hr
  have key : ∀ w : Int32, (w = 0 ∨ w = 1) → ((I 1 (x4 + 5).toNatClampNeg = 0 ∧ w = 0) ∨ (¬ I 1 (x4 + 5).toNatClampNeg = 0 ∧ w = 1)) → mc_WP (mc_en 33 [.ref 10, .int (I 1 (x4 + 1).toNatClampNeg), .int (I 1 (x4 + 2).toNatClampNeg), .int (I 1 (x4 + 3).toNatClampNeg), .int (I 1 (x4 + 4).toNatClampNeg), .int w] (I, J, rf_w r, sh_w N, n)) (mc_kr (fun v t => mc_WP (42, 490, [.ref 1, .ref 10, .ref 84, .ref 105, .int x4, x5, x6], v.toList ++ [], t, (u.1 + 2, u.2 + 12)) Q) (fun k t => Q (.inr k) t)) := by
    intro w hw hww
    have fin : ∀ (I' : rl_M) (n' : Nat) (k : Int32), I' 1 = I 1 → (mc_WP (mc_en 69 [.ref 84, .int (I 1 (x4 + 1).toNatClampNeg), .int (I 1 (x4 + 2).toNatClampNeg), .int (I 1 (x4 + 3).toNatClampNeg), .int (I 1 (x4 + 4).toNatClampNeg), .int w] (I', J, rf_w r, sh_w N, n')) (mc_kr (fun v t => mc_WP (42, 534, [.ref 1, .ref 10, .ref 84, .ref 105, .int x4, .int k, x6], v.toList ++ [], t, (u.1 + 2, u.2 + 12)) Q) (fun k t => Q (.inr k) t))) → mc_WP (42, 490, [.ref 1, .ref 10, .ref 84, .ref 105, .int x4, x5, x6], [.int k], (I', J, rf_w r, sh_w N, n'), (u.1 + 2, u.2 + 12)) Q := by
      intro I' n' k he hW
      refine bk_42_490 ⟨lw_i hN hx (by decide), lw_i hN hx (by decide), lw_i hN hx (by decide), lw_i hN hx (by decide), lw_i hN hx (by decide), ?_⟩
      rw [he]
      rcases hww with ⟨a, b⟩ | ⟨a, b⟩
      · exact ⟨fun _ => ⟨by show u.1 + 2 + 0 ≤ _; omega, by show u.2 + 12 + 0 ≤ _; omega, mc_inl (by rw [b] at hW; exact hW)⟩, fun q => absurd a q⟩
      · exact ⟨fun q => absurd q a, fun _ => ⟨by show u.1 + 2 + 0 ≤ _; omega, by show u.2 + 12 + 0 ≤ _; omega, mc_inl (by rw [b] at hW; exact hW)⟩⟩
    refine cw_set hr hR hw (fun c c' => ?_) (fun c => ?_) (fun c c' => ?_)
    · have g1 := (fr_f hR c).1
      have ne : ∀ a, a < 14 ∨ 54 ≤ a → ¬ a = r + 4 + 4 * (I 1 (x4 + 1).toNatClampNeg).toNatClampNeg := fun a ha => by omega
      have row : ∀ a, a < 14 ∨ 54 ≤ a → mc_up (mc_up (mc_up (mc_up I (r + 4 + 4 * (I 1 (x4 + 1).toNatClampNeg).toNatClampNeg) 6 (I 1 (x4 + 2).toNatClampNeg)) (r + 4 + 4 * (I 1 (x4 + 1).toNatClampNeg).toNatClampNeg) 7 (I 1 (x4 + 3).toNatClampNeg)) (r + 4 + 4 * (I 1 (x4 + 1).toNatClampNeg).toNatClampNeg) 8 (I 1 (x4 + 4).toNatClampNeg)) (r + 4 + 4 * (I 1 (x4 + 1).toNatClampNeg).toNatClampNeg) 9 w a = I a := fun a ha => by rw [up_ne (ne a ha), up_ne (ne a ha), up_ne (ne a ha), up_ne (ne a ha)]
      refine fin _ _ _ (row 1 (by decide)) ?_
      refine cm_set (c := rl_v r I) ?_ hw (fun _ _ => ?_) (fun q => absurd ?_ q) (fun _ q => absurd ?_ q)
      · rw [row 84 (by decide), row 85 (by decide), row 86 (by decide), row 87 (by decide)]; exact hR
      · exact le_534 (hI'.set c c' hw) (by rw [up_ne (by decide), up_ne (by decide), up_ne (by decide), up_ne (by decide), up_at]) hu (by constructor <;> show _ + _ ≤ _ <;> omega) hn
      · rw [row 84 (by decide)]; exact c
      · rw [row 85 (by decide)]; exact c'
    · refine fin _ _ _ rfl ?_
      refine cm_set hR hw (fun q => absurd q c) (fun _ => ?_) (fun q => absurd q c)
      exact le_534 hI'.thr up_at hu (by constructor <;> show _ + _ ≤ _ <;> omega) hn
    · refine fin _ _ _ rfl ?_
      refine cm_set hR hw (fun _ q => absurd q c') (fun q => absurd c q) (fun _ _ => ?_)
      exact le_534 hI'.thr up_at hu (by constructor <;> show _ + _ ≤ _ <;> omega) hn
  refine bk_42_448 ⟨lw_i hN hx (by decide), lw_i hN hx (by decide), lw_i hN hx (by decide), lw_i hN hx (by decide), lw_i hN hx (by decide), fun a => ⟨by omega, by omega, mc_inl (key 0 (Or.inl rfl) (Or.inl ⟨a, rfl⟩))⟩, fun a => ⟨by omega, by omega, mc_inl (key 1 (Or.inr rfl) (Or.inr ⟨a, rfl⟩))⟩⟩
end
