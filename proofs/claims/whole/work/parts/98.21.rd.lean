/-! read: the turn -/
section
variable {I M M' M1 : rl_M} {J : Nat → Nat → Int64} {r N n : Nat} {Q : mc_Q} {x4 : Int32} {x5 x6 : Value} {u : mc_U} {B : rd_B} {Rs : List fr_T}
/-- nothing well formed was there: the relation stays -/
theorem rdg_no (hI : rl_I r I) (k1 : pr_K (48 - r) I M1) (f1 : ∀ b, ¬ b = 84 → ¬ b = 88 → ¬ b = 89 → ¬ b = 90 → (b < 95 ∨ 100 ≤ b) → M' b = M1 b) (f2 : ∀ k, 1 ≤ k → k < 18 → ¬ k = 5 → M' 84 k = M1 84 k) (f3 : ∀ k, k < 9 → ¬ (2 ≤ k ∧ k ≤ 4) → M' 88 k = M1 88 k) : rl_I r M' := by
  obtain ⟨hr, hR, hB, hP, hC, hK⟩ := hI
  have hb := R_lt hr
  have e : ∀ b, ¬ b = 84 → ¬ b = 88 → ¬ b = 89 → ¬ b = 90 → (b < 95 ∨ 100 ≤ b) → (b < 65 ∨ 75 ≤ b) → (b < 48 - r ∨ 48 - r + 20 ≤ b) → M' b = I b := fun b q1 q2 q3 q4 q5 q6 q7 => (f1 b q1 q2 q3 q4 q5).trans (k1.1 b q6 q7)
  have e84 : ∀ k, 1 ≤ k → k < 18 → ¬ k = 5 → M' 84 k = I 84 k := fun k q1 q2 q3 => by rw [f2 k q1 q2 q3, k1.1 84 (by decide) (by omega)]
  have e85 : M' 85 = I 85 := e 85 (by decide) (by decide) (by decide) (by decide) (by decide) (by decide) (by omega)
  have e86 : M' 86 = I 86 := e 86 (by decide) (by decide) (by decide) (by decide) (by decide) (by decide) (by omega)
  have e87 : M' 87 = I 87 := e 87 (by decide) (by decide) (by decide) (by decide) (by decide) (by decide) (by omega)
  refine ⟨hr, ?_, ?_, ?_, ?_, ?_, ?_, ?_⟩
  · rw [rl_vc (I := I) (fun o _ => e (r + o) (by omega) (by omega) (by omega) (by omega) (by omega) (by omega) (by omega)), e84 1 (by decide) (by decide) (by decide), e85, e86, e87]
    exact hR
  · rw [e 54 (by decide) (by decide) (by decide) (by decide) (by decide) (by decide) (by omega), e 55 (by decide) (by decide) (by decide) (by decide) (by decide) (by decide) (by omega), e84 10 (by decide) (by decide) (by decide), e 91 (by decide) (by decide) (by decide) (by decide) (by decide) (by decide) (by omega)]
    exact hB
  · rw [e 75 (by decide) (by decide) (by decide) (by decide) (by decide) (by decide) (by omega), e 92 (by decide) (by decide) (by decide) (by decide) (by decide) (by decide) (by omega)]
    exact hP
  · rw [e 12 (by decide) (by decide) (by decide) (by decide) (by decide) (by decide) (by omega), e 93 (by decide) (by decide) (by decide) (by decide) (by decide) (by decide) (by omega)]
    exact hC
  · intro p hp
    have hpn : p < 54 := by simp only [is_P, List.mem_cons, List.not_mem_nil, or_false] at hp; omega
    rw [f1 p (by omega) (by omega) (by omega) (by omega) (by omega)]
    exact k1.2 p hp
  · intro a q1 q2
    rw [e a (by omega) (by omega) (by omega) (by omega) (by omega) (by omega) (by omega)]
    exact hK.2.1 a q1 q2
  · intro k q1
    have hk : k < 9 ∧ ¬ (2 ≤ k ∧ k ≤ 4) := by simp only [List.mem_cons, List.not_mem_nil, or_false] at q1; omega
    rw [f3 k hk.1 hk.2, k1.1 88 (by decide) (by omega)]
    exact hK.2.2 k q1
/-- a reel was read: the relation holds, with the reels changed over -/
theorem rdg_yes {Mc Mx M2 : rl_M} (hI : rl_I r I) (hB : rd_ok B) (k1 : pr_K (48 - r) I M1) (hg : rdg_y B Rs) (hp : pr_is B M1 (48 - r) Rs) (hl : Rs.length ≤ 4) (hc : rdg_is r I M1 Mc)
    (ht : tr_K Mc Mx) (hi : tr_is B Mx Rs) (f1 : ∀ b, ¬ b = 84 → ¬ b = 85 → ¬ b = 86 → ¬ b = 87 → ¬ b = 92 → ¬ b = 93 → M2 b = Mx b) (f2 : ∀ k, 2 ≤ k → M2 84 k = Mx 84 k) (f3 : M2 84 1 = Int32.ofNat Rs.length)
    (f85 : ∀ k, k < 45 → M2 85 k = Mx 88 k) (f86 : ∀ k, k < 80 → M2 86 k = Mx 89 k) (f87 : ∀ k, k < 256 → M2 87 k = Mx 90 k)
    (f92 : ∀ k, k < 64 → M2 92 k = if Mc 85 2 = Mx 88 2 ∧ Mc 85 3 = Mx 88 3 then Mc 92 k else 0) (f93 : ∀ k, k < 64 → M2 93 k = -1) : rl_I (48 - r) M2 := by
  obtain ⟨hr, hR, hBy, hP, hC, hK⟩ := hI
  have hb := R_lt hr
  have h8 := hB.1
  obtain ⟨hC', hrl⟩ := hg
  obtain ⟨-, -, w2, w3, w4, w5⟩ := id hC'
  obtain ⟨⟨c2, c3, c4⟩, cp, cq, cf⟩ := id hp
  obtain ⟨⟨x2, x3, x40⟩, x5, x6, x7⟩ := id hi
  have all := rl_all hB _ _ _ _ _ hrl ⟨by decide, by decide, by decide⟩ (by decide)
  -- rows that nobody but the class's parser touched
  have a1 : ∀ b, ¬ b = 84 → ¬ b = 85 → ¬ b = 86 → ¬ b = 87 → ¬ b = 92 → ¬ b = 93 → ¬ b = 88 → ¬ b = 89 → ¬ b = 90 → (b < 95 ∨ 100 ≤ b) → ¬ b = 12 → ¬ b = 75 → M2 b = M1 b := fun b q1 q2 q3 q4 q5 q6 q7 q8 q9 q10 q11 q12 => by rw [f1 b q1 q2 q3 q4 q5 q6, ht.1 b q1 q7 q8 q9 q10, hc.1 b q11 q12]
  have a0 : ∀ b, b < 54 → ¬ b = 12 → M2 b = M1 b := fun b q1 q2 => a1 b (by omega) (by omega) (by omega) (by omega) (by omega) (by omega) (by omega) (by omega) (by omega) (by omega) q2 (by omega)
  have k88 : ∀ k, k < 9 → ¬ (2 ≤ k ∧ k ≤ 4) → Mx 88 k = I 88 k := fun k q1 q2 => by rw [ht.2.2 k q1 q2, hc.1 88 (by decide) (by decide), k1.1 88 (by decide) (by omega)]
  have v : rl_v (48 - r) M2 = rl_v (48 - r) M1 := rl_vc fun o ho => a0 _ (by omega) (by omega)
  have g2 : M2 85 2 = Int32.ofNat (B.2 2) := (f85 2 (by decide)).trans x2
  have g3 : M2 85 3 = Int32.ofNat (B.2 3) := (f85 3 (by decide)).trans x3
  have g4 : M2 85 4 = Int32.ofNat (B.2 4 + 1) := (f85 4 (by decide)).trans x40
  have b2 := w2.2
  have b3 := w3.2
  have b4 := w4.2
  have p16 : 2 ^ (B.2 4 + 1) ≤ 16 := p2_16 (by omega)
  have cn : rl_cnt (Int32.ofNat (B.2 4 + 1)) = Int32.ofNat (2 ^ (B.2 4 + 1)) := by
    rw [rlc (by omega)]
    unfold cn_b
    rw [if_neg (by omega)]
  refine ⟨wd_Q hr, ?_, ?_, ?_, ?_, ?_, ?_, ?_⟩
  · rw [v, f3]
    refine ⟨by rw [on_t (by omega)]; omega, ?_, ?_, ?_, ?_, ?_, ?_, ?_, ⟨?_, ?_, fun k hk => ?_⟩, fun f hf => ?_⟩
    · rw [rl_v0 _ _ _ _ (by decide)]; exact c4
    · rw [rl_v0 _ _ _ _ (by decide), g2]; exact c2
    · rw [rl_v0 _ _ _ _ (by decide), g3]; exact c3
    · rw [g2, on_t (by omega)]; omega
    · rw [g3, on_t (by omega)]; omega
    · rw [f85 0 (by decide), f85 1 (by decide), f85 5 (by decide), f85 6 (by decide), f85 7 (by decide), f85 8 (by decide), k88 0 (by decide) (by decide), k88 1 (by decide) (by decide), k88 5 (by decide) (by decide), k88 6 (by decide) (by decide), k88 7 (by decide) (by decide), k88 8 (by decide) (by decide)]
      exact ⟨hK.2.2 0 (by decide), hK.2.2 1 (by decide), hK.2.2 5 (by decide), hK.2.2 6 (by decide), hK.2.2 7 (by decide), hK.2.2 8 (by decide)⟩
    · rw [g4, on_t (by omega)]; omega
    · show 0 ≤ (M2 85 4).toInt ∧ (M2 85 4).toInt ≤ 4
      rw [g4, on_t (by omega)]; omega
    · show rl_v (48 - r) M1 1 1 = rl_cnt (M2 85 4)
      rw [rl_v0 _ _ _ _ (by decide), g4, cn]; exact cp
    · show rl_v (48 - r) M1 2 k = M2 86 (16 * 0 + k) ∧ _ ∧ ((rl_cnt (M2 85 4)).toInt ≤ k → _)
      have ek : M2 86 (16 * 0 + k) = if k < 2 ^ (B.2 4 + 1) then cv_f B (5 + 3 * k) else 0 := by
        rw [show 16 * 0 + k = k by omega, f86 k (by omega)]; exact x6 k hk
      rw [rl_v0 _ _ _ _ (by decide), ek, g4, cn, on_t (by omega)]
      refine ⟨cq k hk, ?_, fun hle => by rw [if_neg (by omega)]⟩
      split
      · exact cv_b hB
      · decide
    · rw [on_t (by omega)] at hf
      have hfl : f < Rs.length := by omega
      have hR' := List.getElem?_eq_getElem hfl
      obtain ⟨a, s, z, hso, hpf⟩ := all.2 f _ hR'
      exact rb_Fr hB hso ⟨by omega, by omega⟩ hpf (by omega) (cf f _ hR') (x7 f _ hR') g4 f85 f86 f87 x40
  · rw [a1 54 (by decide) (by decide) (by decide) (by decide) (by decide) (by decide) (by decide) (by decide) (by decide) (by decide) (by decide) (by decide), a1 55 (by decide) (by decide) (by decide) (by decide) (by decide) (by decide) (by decide) (by decide) (by decide) (by decide) (by decide) (by decide), a1 91 (by decide) (by decide) (by decide) (by decide) (by decide) (by decide) (by decide) (by decide) (by decide) (by decide) (by decide) (by decide), f2 10 (by decide), ht.2.1 10 (by decide) (by decide), hc.1 84 (by decide) (by decide), k1.1 54 (by decide) (by omega), k1.1 55 (by decide) (by omega), k1.1 91 (by decide) (by omega), k1.1 84 (by decide) (by omega)]
    exact hBy
  · intro k hk
    have r2 : I r 2 = I 85 2 := by have := hR.2.2.1; rw [rl_v0 _ _ _ _ (by decide)] at this; exact this
    have r3 : I r 3 = I 85 3 := by have := hR.2.2.2.1; rw [rl_v0 _ _ _ _ (by decide)] at this; exact this
    have m85 : Mc 85 = I 85 := by rw [hc.1 85 (by decide) (by decide), k1.1 85 (by decide) (by omega)]
    have m92 : Mc 92 = I 92 := by rw [hc.1 92 (by decide) (by decide), k1.1 92 (by decide) (by omega)]
    have m75 : M2 75 = Mc 75 := by rw [f1 75 (by decide) (by decide) (by decide) (by decide) (by decide) (by decide), ht.1 75 (by decide) (by decide) (by decide) (by decide) (by decide)]
    rw [m75, hc.2.1 k hk, f92 k hk, m85, m92, r2, r3, c2, c3, x2, x3]
    by_cases q : Int32.ofNat (B.2 2) = I 85 2 ∧ Int32.ofNat (B.2 3) = I 85 3
    · rw [if_pos q, if_pos ⟨q.1.symm, q.2.symm⟩]
      exact hP k hk
    · rw [if_neg q, if_neg fun z => q ⟨z.1.symm, z.2.symm⟩]
      exact ⟨rfl, by decide, by decide⟩
  · intro k hk
    have m12 : M2 12 = Mc 12 := by rw [f1 12 (by decide) (by decide) (by decide) (by decide) (by decide) (by decide), ht.1 12 (by decide) (by decide) (by decide) (by decide) (by decide)]
    rw [m12, hc.2.2 k hk, f93 k hk]
  · intro p hp'
    have hpn : p < 54 ∧ ¬ p = 12 := by simp only [is_P, List.mem_cons, List.not_mem_nil, or_false] at hp'; omega
    rw [a0 p hpn.1 hpn.2]
    exact k1.2 p hp'
  · intro a q1 q2
    rw [a0 a (by omega) (by omega), k1.1 a (by omega) (by omega)]
    exact hK.2.1 a q1 q2
  · intro k q1
    have hk : k < 9 ∧ ¬ (2 ≤ k ∧ k ≤ 4) := by simp only [List.mem_cons, List.not_mem_nil, or_false] at q1; omega
    rw [f1 88 (by decide) (by decide) (by decide) (by decide) (by decide) (by decide), k88 k hk.1 hk.2]
    exact hK.2.2 k q1
theorem lc_read (hI : rl_I r I) (hN : N ≤ 3074) (hx : 0 ≤ x4.toInt ∧ x4.toInt + 6 ≤ N) (hu : u.1 + 3 ≤ 601024 ∧ u.2 + 18 ≤ 7293000) (hn : lw_nx N x4 u Q) : mc_WP (42, 947, [.ref 1, .ref 10, .ref 84, .ref 105, .int x4, x5, x6], [], (I, J, rf_w r, sh_w N, n), u) Q := by
  have hr := hI.1
  have hb := R_lt hr
  obtain ⟨ok, bc, bm⟩ := rdg_ok hI.2.2.1
  have hK := hI.2.2.2.2.2
  refine bk_42_947 ⟨by omega, by omega, mc_inl ?_⟩
  refine cw_read hr hK ok bc (fun M1 k1 hbad => ?_) (fun Mc M1 Rs k1 hg hp hl hc => ?_)
  · refine bk_42_952 ⟨by show u.1 + 1 + 0 ≤ _; omega, by show u.2 + 6 + 0 ≤ _; omega, mc_inl ?_⟩
    refine cm_read ok (by_mg bm (by rw [k1.1 84 (by decide) (by omega)]) (k1.1 91 (by decide) (by omega))) (fun M2 f1 f2 f3 f4 _ => ?_) (fun M2 Mx Rs _ _ hC2 hrl2 _ _ _ _ _ _ _ _ _ => absurd (rdg_x hbad ⟨hC2, hrl2⟩) (fun z => z))
    exact le_958 (rdg_no hI k1 f1 f2 f3) f4 (fun q => absurd q (by decide)) hu (by constructor <;> show _ + _ ≤ _ <;> omega) hn
  · refine bk_42_952 ⟨by show u.1 + 1 + 0 ≤ _; omega, by show u.2 + 6 + 0 ≤ _; omega, mc_inl ?_⟩
    have e84 : Mc 84 = I 84 := by rw [hc.1 84 (by decide) (by decide), k1.1 84 (by decide) (by omega)]
    have e91 : Mc 91 = I 91 := by rw [hc.1 91 (by decide) (by decide), k1.1 91 (by decide) (by omega)]
    refine cm_read ok (by_mg bm (by rw [e84]) e91) (fun M2 _ _ _ _ hbad => absurd (rdg_x hbad hg) (fun z => z)) (fun M2 Mx Rs2 ht hi hC2 hrl2 f1 f2 f0 f3 f85 f86 f87 f92 f93 => ?_)
    have eRs : Rs2 = Rs := Option.some.inj (hrl2.symm.trans hg.2)
    subst eRs
    exact le_958 (rdg_yes hI ok k1 hg hp hl hc ht hi f1 f2 f3 f85 f86 f87 f92 f93) f0 (fun _ => if_pos ⟨rfl, rfl⟩) hu (by constructor <;> show _ + _ ≤ _ <;> omega) hn
end
