/-! write: the tables of the strings on both sides -/
section
variable {I M M' : rl_M} {J : Nat → Nat → Int64} {r N n : Nat} {Q : mc_Q} {v x : Int32} {fr b c e k a0 m : Nat} {Z : lz_Z} {R : List Int32} {A B C D A' B' C' D' : Nat → Int32}
def tb_is (fr : Nat) (Z : lz_Z) (A B C D : Nat → Int32) : Prop := (∀ c, va_c fr Z c → (Z.2.2.1 c).head? = some (B c) ∧ (Z.2.2.1 c).getLast? = some (C c) ∧ D c = Int32.ofNat (Z.2.2.1 c).length) ∧ ∀ e, fr + 2 ≤ e → e < Z.1 → A e = Int32.ofNat (Z.2.2.2 e)
theorem on_m1 (h : b < 2147483648) : ¬ Int32.ofNat b = -1 := fun q => by
  have := congrArg Int32.toInt q
  rw [on_t h, i3_m1] at this
  omega
theorem tb_nw (hf : fr ≤ 16) (h : lz_ok fr Z) (ht : tb_is fr Z A B C D) (hb : va_c fr Z b) (hbf : Z.2.1 = Int32.ofNat b) (hn : Z.1 ≤ 63)
    (hA : ∀ k, A' k = if k = Z.1 then Int32.ofNat b else A k) (hB : ∀ k, B' k = if k = Z.1 then B b else B k) (hC : ∀ k, C' k = if k = Z.1 then x else C k) (hD : ∀ k, D' k = if k = Z.1 then D b + 1 else D k) : tb_is fr (lz_nw Z x) A' B' C' D' := by
  have hb64 := va_lt h hf hb
  have q : ¬ (Z.2.1 = -1 ∨ 63 < Z.1) := fun q => by
    rcases q with q | q
    · rw [hbf] at q; exact on_m1 (by omega) q
    · omega
  have hbn : Z.2.1.toNatClampNeg = b := by rw [hbf, on_n (by omega)]
  rw [nw_new q, hbn]
  obtain ⟨t1, t2⟩ := ht
  refine ⟨fun c hc => ?_, fun e e1 e2 => ?_⟩
  · show (if c = Z.1 then Z.2.2.1 b ++ [x] else Z.2.2.1 c).head? = some (B' c) ∧ (if c = Z.1 then Z.2.2.1 b ++ [x] else Z.2.2.1 c).getLast? = some (C' c) ∧ D' c = Int32.ofNat (if c = Z.1 then Z.2.2.1 b ++ [x] else Z.2.2.1 c).length
    rw [hB, hC, hD]
    by_cases z : c = Z.1
    · rw [if_pos z, if_pos z, if_pos z, if_pos z]
      obtain ⟨s1, s2, s3⟩ := t1 b hb
      refine ⟨?_, ?_, ?_⟩
      · rw [List.head?_append, s1]; rfl
      · rw [List.getLast?_append]; rfl
      · rw [s3, on_1, List.length_append]; rfl
    · rw [if_neg z, if_neg z, if_neg z, if_neg z]
      refine t1 c ?_
      rcases hc with y | y
      · exact Or.inl y
      · have y2 : c < Z.1 + 1 := y.2
        exact Or.inr ⟨y.1, by omega⟩
  · have e2' : e < Z.1 + 1 := e2
    show A' e = Int32.ofNat (if e = Z.1 then b else Z.2.2.2 e)
    rw [hA]
    by_cases z : e = Z.1
    · rw [if_pos z, if_pos z]
    · rw [if_neg z, if_neg z]; exact t2 e e1 (by omega)
theorem tb_rf (ht : tb_is fr Z A B C D) : tb_is fr (lz_rf fr Z) A B C D := by
  refine ⟨fun c hc => ?_, fun e e1 e2 => absurd e2 (by show ¬ e < fr + 2; omega)⟩
  rcases hc with y | y
  · exact ht.1 c (Or.inl y)
  · have y2 : c < fr + 2 := y.2
    omega
theorem tb_bf (ht : tb_is fr Z A B C D) : tb_is fr (lz_bf Z c) A B C D := ht
/-- nothing but the codes that stand for themselves -/
def lz_0 (fr : Nat) : lz_Z := (fr + 2, -1, fun c => [Int32.ofNat c], fun _ => 0)
theorem l0_ok (hf : fr ≤ 16) : lz_ok fr (lz_0 fr) := by
  refine ⟨⟨Nat.le_refl _, by show fr + 2 ≤ 64; omega⟩, fun _ _ => rfl, fun e e1 e2 => absurd e2 (by show ¬ e < fr + 2; omega), fun c c' hc hc' heq => ?_⟩
  have v : ∀ c, va_c fr (lz_0 fr) c → c < 64 := fun c hc => by
    rcases hc with q | q
    · omega
    · have : c < fr + 2 := q.2
      omega
  have h1 := v c hc
  have h2 := v c' hc'
  have heq' : [Int32.ofNat c] = [Int32.ofNat c'] := heq
  have := (List.cons.inj heq').1
  exact (on_eq (by omega) (by omega)).mp this
theorem l0_at : lz_at fr (lz_0 fr) R := Or.inl ⟨rfl, rfl⟩
theorem tb_00 (h : ∀ c, c < fr → B c = Int32.ofNat c ∧ C c = Int32.ofNat c ∧ D c = 1) : tb_is fr (lz_0 fr) A B C D := by
  refine ⟨fun c hc => ?_, fun e e1 e2 => absurd e2 (by show ¬ e < fr + 2; omega)⟩
  rcases hc with y | y
  · obtain ⟨h1, h2, h3⟩ := h c y
    rw [h1, h2, h3]
    exact ⟨rfl, rfl, rfl⟩
  · have y2 : c < fr + 2 := y.2
    omega
def cd_is (M : rl_M) (a0 fr : Nat) (Z : lz_Z) : Prop := (M a0 4 = Int32.ofNat fr ∧ M a0 5 = Int32.ofNat (fr + 1) ∧ M a0 6 = Int32.ofNat Z.1 ∧ M a0 7 = Z.2.1) ∧ tb_is fr Z (M (a0 + 1)) (M (a0 + 2)) (M (a0 + 3)) (M (a0 + 4))
def md_is (M : rl_M) (fr : Nat) (Z : lz_Z) : Prop := (M 84 19 = Int32.ofNat fr ∧ M 84 18 = Int32.ofNat Z.1 ∧ M 84 20 = Z.2.1) ∧ tb_is fr Z (M 95) (M 97) (M 96) (M 98)
theorem cd_cg (h : cd_is M a0 fr Z) (e0 : M' a0 = M a0) (e1 : M' (a0 + 1) = M (a0 + 1)) (e2 : M' (a0 + 2) = M (a0 + 2)) (e3 : M' (a0 + 3) = M (a0 + 3)) (e4 : M' (a0 + 4) = M (a0 + 4)) : cd_is M' a0 fr Z := by
  unfold cd_is
  rw [e0, e1, e2, e3, e4]
  exact h
def cd_K (a0 : Nat) (M M' : rl_M) : Prop := ∀ b, (b < a0 ∨ a0 + 5 ≤ b) → M' b = M b
theorem cc_begin2 (hG : is_G a0) (hm : m ≤ 4) (hfr : fr = 2 ^ m) (hk : ∀ M', cd_K a0 M M' → cd_is M' a0 fr (lz_0 fr) → Q (.inl none) (M', J, rf_w r, sh_w N, n)) : mc_WP (mc_en 195 [.ref a0, .int (Int32.ofNat m)] (M, J, rf_w r, sh_w N, n)) Q := by
  obtain ⟨s1, _⟩ := sh_2 (i := m) (by omega)
  have h16 : fr ≤ 16 := by
    have : 2 ^ m ≤ 2 ^ 4 := Nat.pow_le_pow_right (by decide) hm
    have e : (2 : Nat) ^ 4 = 16 := rfl
    omega
  refine bk_195_0 hG ?_
  rw [s1, ← hfr, up_at, on_1]
  refine lp_go (C := fun k (i : rl_M) => (195, 19, [.ref a0, .int (Int32.ofNat m), .int (Int32.ofNat k)], [], (i, J, rf_w r, sh_w N, n), (0, 0))) (P := fun k i => cd_K a0 M i ∧ i a0 4 = Int32.ofNat fr ∧ i a0 5 = Int32.ofNat (fr + 1) ∧ ∀ j, j < k → i (a0 + 2) j = Int32.ofNat j ∧ i (a0 + 3) j = Int32.ofNat j ∧ i (a0 + 4) j = 1) fr _ ⟨fun b q => by rw [up_ne (by omega), up_ne (by omega)], by rw [up_nk (by decide), up_at], by rw [up_at], fun j hj => absurd hj (by omega)⟩ ?_ ?_
  · intro k hk' i ⟨i1, i2, i3, i4⟩ ih
    try dsimp only at ih ⊢
    refine bk_195_19 hG ?_
    rw [i2, on_n (by omega), on_1 (k := k)]
    refine ⟨fun q => absurd ((on_le (by omega) (by omega)).mp q) (by omega), fun _ => ⟨on_vp (by omega) (by omega), on_vp (by omega) (by omega), on_vp (by omega) (by omega), ih _ ⟨fun b q => by rw [up_ne (by omega), up_ne (by omega), up_ne (by omega)]; exact i1 b q, by rw [up_ne (by omega), up_ne (by omega), up_ne (by omega)]; exact i2, by rw [up_ne (by omega), up_ne (by omega), up_ne (by omega)]; exact i3, fun j hj => ?_⟩⟩⟩
    by_cases z : j = k
    · subst z
      exact ⟨by rw [up_ne (by omega), up_ne (by omega), up_at], by rw [up_ne (by omega), up_at], by rw [up_at]⟩
    · rw [up_ne (show ¬ a0 + 2 = a0 + 4 by omega), up_ne (show ¬ a0 + 2 = a0 + 3 by omega), up_nk z, up_ne (show ¬ a0 + 3 = a0 + 4 by omega), up_nk z, up_ne (show ¬ a0 + 3 = a0 + 2 by omega), up_nk z, up_ne (show ¬ a0 + 4 = a0 + 3 by omega), up_ne (show ¬ a0 + 4 = a0 + 2 by omega)]
      exact i4 j (by omega)
  · intro i ⟨i1, i2, i3, i4⟩
    try dsimp only
    refine bk_195_19 hG ?_
    rw [i2, i3, on_1]
    refine ⟨fun _ => hk _ (fun b q => by rw [up_ne (by omega), up_ne (by omega)]; exact i1 b q) ⟨⟨?_, ?_, ?_, ?_⟩, ?_⟩, fun q => absurd ((on_le (by omega) (by omega)).mpr (Nat.le_refl _)) q⟩
    · rw [up_nk (by decide), up_nk (by decide)]; exact i2
    · rw [up_nk (by decide), up_nk (by decide)]; exact i3
    · rw [up_nk (by decide), up_at]; rfl
    · rw [up_at]; rfl
    · rw [up_ne (show ¬ a0 + 1 = a0 by omega), up_ne (show ¬ a0 + 1 = a0 by omega), up_ne (show ¬ a0 + 2 = a0 by omega), up_ne (show ¬ a0 + 2 = a0 by omega), up_ne (show ¬ a0 + 3 = a0 by omega), up_ne (show ¬ a0 + 3 = a0 by omega), up_ne (show ¬ a0 + 4 = a0 by omega), up_ne (show ¬ a0 + 4 = a0 by omega)]
      exact tb_00 i4
/-- the entry behind a string and a pixel -/
theorem cc_longer (hG : is_G a0) (hf : fr ≤ 16) (h : lz_ok fr Z) (hd : cd_is M a0 fr Z) (hc : va_c fr Z c) (h1 : (∀ e, fr + 2 ≤ e → e < Z.1 → ¬ Z.2.2.1 e = Z.2.2.1 c ++ [v]) → Q (.inl (some (.int (-1)))) (M, J, rf_w r, sh_w N, n))
    (h2 : ∀ e, fr + 2 ≤ e → e < Z.1 → Z.2.2.1 e = Z.2.2.1 c ++ [v] → Q (.inl (some (.int (Int32.ofNat e)))) (M, J, rf_w r, sh_w N, n)) : mc_WP (mc_en 203 [.ref a0, .int (Int32.ofNat c), .int v] (M, J, rf_w r, sh_w N, n)) Q := by
  obtain ⟨⟨d1, d2, d3, d4⟩, t1, t2⟩ := hd
  have z1 := h.1
  have hc64 := va_lt h hf hc
  refine bk_203_0 hG ?_
  rw [d2, on_1]
  have key : ∀ e, fr + 2 ≤ e → e < Z.1 → (Z.2.2.1 e = Z.2.2.1 c ++ [v] ↔ (M (a0 + 1) e = Int32.ofNat c ∧ M (a0 + 3) e = v)) := fun e e1 e2 => by
    obtain ⟨w1, w2⟩ := lz_st h e1 e2
    obtain ⟨a, ha⟩ := (h.2.2.1 e e1 e2).2
    have hl := (t1 e (Or.inr ⟨e1, e2⟩)).2.1
    rw [ha, List.getLast?_append] at hl
    have hl' : a = M (a0 + 3) e := Option.some.inj hl
    have hs := va_lt h hf w1
    rw [t2 e e1 e2, on_eq (by omega) (by omega), ha, ← hl']
    refine ⟨fun q => ?_, fun q => by rw [q.1, q.2]⟩
    obtain ⟨q1, q2⟩ := List.append_inj' q rfl
    exact ⟨h.2.2.2 _ _ w1 hc q1, (List.cons.inj q2).1⟩
  have run : ∀ d e, e + d = Z.1 → fr + 2 ≤ e → (∀ e', fr + 2 ≤ e' → e' < e → ¬ Z.2.2.1 e' = Z.2.2.1 c ++ [v]) → mc_WP (203, 7, [.ref a0, .int (Int32.ofNat c), .int v, .int (Int32.ofNat e)], [], (M, J, rf_w r, sh_w N, n), (0, 0)) Q := by
    intro d
    induction d with
    | zero =>
      intro e he e1 hno
      refine bk_203_7 hG ?_
      rw [d3]
      exact ⟨fun _ => h1 fun e' q1 q2 => hno e' q1 (by omega), fun q => absurd ((on_le (by omega) (by omega)).mpr (by omega)) q⟩
    | succ d ih =>
      intro e he e1 hno
      refine bk_203_7 hG ?_
      rw [d3, on_n (by omega), on_1 (k := e)]
      have go : ¬ Z.2.2.1 e = Z.2.2.1 c ++ [v] → mc_WP (203, 7, [.ref a0, .int (Int32.ofNat c), .int v, .int (Int32.ofNat (e + 1))], [], (M, J, rf_w r, sh_w N, n), (0, 0)) Q := fun q => ih (e + 1) (by omega) (by omega) fun e' q1 q2 => by
        by_cases z : e' = e
        · rw [z]; exact q
        · exact hno e' q1 (by omega)
      have ky := key e e1 (by omega)
      refine ⟨fun q => absurd ((on_le (by omega) (by omega)).mp q) (by omega), fun _ => ⟨on_vp (by omega) (by omega), fun q => go fun z => q (ky.mp z).1, fun q => ⟨on_vp (by omega) (by omega), fun q2 => go fun z => q2 (ky.mp z).2, fun q2 => h2 e e1 (by omega) (ky.mpr ⟨Classical.not_not.mp q, Classical.not_not.mp q2⟩)⟩⟩⟩
  exact run (Z.1 - (fr + 2)) (fr + 2) (by omega) (Nat.le_refl _) fun e' q1 q2 => by omega
end
