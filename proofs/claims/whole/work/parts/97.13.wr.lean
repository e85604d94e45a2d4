/-! write: the reference's codes of a whole picture -/
section
variable {I M M' : rl_M} {J : Nat → Nat → Int64} {r N n : Nat} {Q : mc_Q} {v x : Int32} {fr b c e k m d t code : Nat} {Z : lz_Z} {P R L : List Int32} {s : List Int32 × Nat × Nat}
def me_K (M M' : rl_M) : Prop := (∀ b, ¬ b = 84 → ¬ b = 95 → ¬ b = 96 → ¬ b = 97 → ¬ b = 98 → M' b = M b) ∧ ∀ k, ¬ k = 18 → ¬ k = 19 → ¬ k = 20 → M' 84 k = M 84 k
theorem cm_enter (hf : fr ≤ 16) (h : lz_ok fr Z) (hat : lz_at fr Z (x :: R)) (hd : md_is M fr Z) (hg : gd_c fr (lz_nw Z x) (x :: R) c)
    (hk : ∀ M', me_K M M' → md_is M' fr (lz_bf (lz_nw Z x) c) → Q (.inl none) (M', J, rf_w r, sh_w N, n)) : mc_WP (mc_en 80 [.ref 84, .int (Int32.ofNat c)] (M, J, rf_w r, sh_w N, n)) Q := by
  obtain ⟨⟨d1, d2, d3⟩, dt⟩ := id hd
  have z1 := h.1
  have hok' := nw_ok hf h hat
  have z2 := hok'.1
  have hc64 := va_lt hok' hf hg.1
  have plain : lz_nw Z x = Z → Q (.inl none) (mc_up M 84 20 (Int32.ofNat c), J, rf_w r, sh_w N, n) := fun e => by
    rw [e] at hk
    refine hk _ ⟨fun b q _ _ _ _ => up_ne q, fun k _ _ q => up_nk q⟩ ⟨⟨?_, ?_, ?_⟩, ?_⟩
    · rw [up_nk (by decide)]; exact d1
    · rw [up_nk (by decide)]; exact d2
    · rw [up_at]; rfl
    · rw [up_ne (by decide), up_ne (by decide), up_ne (by decide), up_ne (by decide)]; exact tb_bf dt
  refine bk_80_0 ?_
  rw [d3, d2, bf_lt0 (at_bf hf h hat), on_n (k := Z.1) (by omega)]
  refine ⟨fun q => plain (nw_old (Or.inl q)), fun q => ⟨fun q2 => plain (nw_old (Or.inr ?_)), fun q2 => ?_⟩⟩
  · have := (on_le (k := 64) (by omega) (by omega)).mp q2
    omega
  · have q3 : ¬ 64 ≤ Z.1 := fun z => q2 ((on_le (k := 64) (by omega) (by omega)).mpr z)
    rcases hat with z | ⟨b, b1, b2, b3⟩
    · exact absurd z.1 q
    · have hb64 := va_lt h hf b1
      have hbn : Z.2.1.toNatClampNeg = b := by rw [b2, on_n (by omega)]
      have hnw := nw_new (Z := Z) (x := x) (fun z => by rcases z with z | z; exact q z; omega)
      rw [hbn] at hnw
      have hn1 : (lz_nw Z x).1 = Z.1 + 1 := by rw [hnw]
      have hbZ : ¬ b = Z.1 := by rcases b1 with w | w <;> omega
      rw [b2, on_n (k := b) (by omega), on_1 (k := Z.1), on_n (k := c) (by omega), on_eq (by omega) (by omega)]
      have done : ∀ y, y = x → Q (.inl none) (mc_up (mc_up (mc_up (mc_up (mc_up (mc_up M 95 Z.1 (Int32.ofNat b)) 97 Z.1 (M 97 b)) 96 Z.1 y) 98 Z.1 (M 98 b + 1)) 84 18 (Int32.ofNat (Z.1 + 1))) 84 20 (Int32.ofNat c), J, rf_w r, sh_w N, n) := fun y hy => by
        refine hk _ ⟨fun b q1 q2 q3 q4 q5 => by rw [up_ne q1, up_ne q1, up_ne q5, up_ne q3, up_ne q4, up_ne q2], fun k q1 _ q2 => by rw [up_nk q2, up_nk q1, up_ne (by decide), up_ne (by decide), up_ne (by decide), up_ne (by decide)]⟩ ⟨⟨?_, ?_, ?_⟩, ?_⟩
        · rw [up_nk (by decide), up_nk (by decide), up_ne (by decide), up_ne (by decide), up_ne (by decide), up_ne (by decide)]; exact d1
        · rw [up_nk (by decide), up_at]; show _ = Int32.ofNat (lz_nw Z x).1; rw [hn1]
        · rw [up_at]; rfl
        · refine tb_bf (tb_nw hf h dt b1 b2 (by omega) (fun k => ?_) (fun k => ?_) (fun k => ?_) fun k => ?_)
          · rw [up_ne (by decide), up_ne (by decide), up_ne (by decide), up_ne (by decide), up_ne (by decide), up_row]
          · rw [up_ne (by decide), up_ne (by decide), up_ne (by decide), up_ne (by decide), up_row, up_ne (by decide)]
          · rw [up_ne (by decide), up_ne (by decide), up_ne (by decide), up_row, hy, up_ne (by decide), up_ne (by decide)]
          · rw [up_ne (by decide), up_ne (by decide), up_row, up_ne (by decide), up_ne (by decide), up_ne (by decide)]
      have hhd : ∀ e, va_c fr Z e → Z.2.2.1 e <+: x :: R → M 97 e = x := fun e he hp => hd_pre hp (dt.1 e he).1
      refine ⟨on_vp (by omega) (by omega), on_vp (by omega) (by omega), on_vp (by omega) (by omega), fun y => ⟨on_vp (by omega) (by omega), on_vp (by omega) (by omega), on_vp (by omega) (by omega), on_vp (by omega) (by omega), done _ ?_⟩, fun y => ⟨on_vp (by omega) (by omega), on_vp (by omega) (by omega), on_vp (by omega) (by omega), on_vp (by omega) (by omega), done _ ?_⟩⟩
      · rw [up_nk y, up_ne (by decide)]
        have hp := hg.2.1
        have hva := hg.1
        rw [hnw] at hp hva
        have hp2 : (if c = Z.1 then Z.2.2.1 b ++ [x] else Z.2.2.1 c) <+: x :: R := hp
        rw [if_neg y] at hp2
        refine hhd c ?_ hp2
        rcases hva with w | w
        · exact Or.inl w
        · have : c < Z.1 + 1 := w.2
          exact Or.inr ⟨w.1, by omega⟩
      · rw [up_nk hbZ, up_ne (by decide)]
        have hp := hg.2.1
        rw [hnw] at hp
        have hp2 : (if c = Z.1 then Z.2.2.1 b ++ [x] else Z.2.2.1 c) <+: x :: R := hp
        rw [if_pos (Classical.not_not.mp y)] at hp2
        exact hhd b b1 (List.IsPrefix.trans (List.prefix_append _ _) hp2)
theorem cm_begin2 (hm : m ≤ 4) (hfr : fr = 2 ^ m) (hk : ∀ M', me_K M M' → md_is M' fr (lz_0 fr) → Q (.inl none) (M', J, rf_w r, sh_w N, n)) : mc_WP (mc_en 77 [.ref 84, .int (Int32.ofNat m)] (M, J, rf_w r, sh_w N, n)) Q := by
  obtain ⟨s1, _⟩ := sh_2 (i := m) (by omega)
  have h16 : fr ≤ 16 := by
    have : 2 ^ m ≤ 2 ^ 4 := Nat.pow_le_pow_right (by decide) hm
    have e : (2 : Nat) ^ 4 = 16 := rfl
    omega
  refine bk_77_0 ?_
  rw [s1, ← hfr]
  refine lp_go (C := fun k (i : rl_M) => (77, 9, [.ref 84, .int (Int32.ofNat m), .int (Int32.ofNat k)], [], (i, J, rf_w r, sh_w N, n), (0, 0))) (P := fun k i => me_K M i ∧ i 84 19 = Int32.ofNat fr ∧ ∀ j, j < k → i 97 j = Int32.ofNat j ∧ i 96 j = Int32.ofNat j ∧ i 98 j = 1) fr _ ⟨⟨fun b q _ _ _ _ => up_ne q, fun k _ q _ => up_nk q⟩, up_at, fun j hj => absurd hj (by omega)⟩ ?_ ?_
  · intro k hk' i ⟨⟨i1, i2⟩, i3, i4⟩ ih
    try dsimp only at ih ⊢
    refine bk_77_9 ?_
    rw [i3, on_n (by omega), on_1 (k := k)]
    refine ⟨fun q => absurd ((on_le (by omega) (by omega)).mp q) (by omega), fun _ => ⟨on_vp (by omega) (by omega), on_vp (by omega) (by omega), on_vp (by omega) (by omega), on_vp (by omega) (by omega), ih _ ⟨⟨fun b q1 q2 q3 q4 q5 => by rw [up_ne q5, up_ne q4, up_ne q3, up_ne q2]; exact i1 b q1 q2 q3 q4 q5, fun k q1 q2 q3 => by rw [up_ne (by decide), up_ne (by decide), up_ne (by decide), up_ne (by decide)]; exact i2 k q1 q2 q3⟩, by rw [up_ne (by decide), up_ne (by decide), up_ne (by decide), up_ne (by decide)]; exact i3, fun j hj => ?_⟩⟩⟩
    by_cases z : j = k
    · subst z
      exact ⟨by rw [up_ne (by decide), up_at], by rw [up_ne (by decide), up_ne (by decide), up_at], by rw [up_at]⟩
    · rw [up_nk z, up_nk z, up_nk z, up_nk z, up_nk z, up_nk z, up_nk z, up_nk z, up_nk z, up_nk z, up_nk z, up_nk z]
      exact i4 j (by omega)
  · intro i ⟨⟨i1, i2⟩, i3, i4⟩
    try dsimp only
    refine bk_77_9 ?_
    rw [i3, on_p2]
    refine ⟨fun _ => hk _ ⟨fun b q1 q2 q3 q4 q5 => by rw [up_ne q1, up_ne q1]; exact i1 b q1 q2 q3 q4 q5, fun k q1 q2 q3 => by rw [up_nk q3, up_nk q1]; exact i2 k q1 q2 q3⟩ ⟨⟨?_, ?_, ?_⟩, ?_⟩, fun q => absurd ((on_le (by omega) (by omega)).mpr (Nat.le_refl _)) q⟩
    · rw [up_nk (by decide), up_nk (by decide)]; exact i3
    · rw [up_nk (by decide), up_at]; rfl
    · rw [up_at]; rfl
    · rw [up_ne (by decide), up_ne (by decide), up_ne (by decide), up_ne (by decide), up_ne (by decide), up_ne (by decide), up_ne (by decide), up_ne (by decide)]
      exact tb_00 i4
theorem gr_ge (hf : fr ≤ 16) (h : lz_ok fr Z) : fr + 1 ≤ gr_v (fr + 1) Z.1 Z.2.1 := by
  have := h.1
  unfold gr_v; repeat' split <;> try omega
theorem gw_fr (hf : fr ≤ 16) (h : lz_ok fr Z) : fr + 1 < 2 ^ gw fr Z := Nat.lt_of_le_of_lt (gr_ge hf h) (wd_p (gr_64 hf))
theorem gw_c (hf : fr ≤ 16) (h : lz_ok fr Z) (hat : lz_at fr Z R) (hok' : lz_ok fr (lz_nw Z x)) (hc : va_c fr (lz_nw Z x) c) : c < 2 ^ gw fr Z := by
  refine Nat.lt_of_le_of_lt ?_ (wd_p (gr_64 (Z := Z) hf))
  have hc64 := va_lt hok' hf hc
  have n1 := nw_1 (Z := Z) (x := x)
  have z1 := h.1
  unfold gr_v
  by_cases q : Z.2.1 = -1
  · rw [if_pos q]
    rw [nw_old (Or.inl q)] at hc
    rcases hat with z | ⟨b, b1, b2, b3⟩
    · rcases hc with w | w <;> omega
    · rw [b2] at q
      exact absurd q (on_m1 (by have := va_lt h hf b1; omega))
  · rw [if_neg q]
    have : c ≤ Z.1 := by rcases hc with w | w <;> omega
    split <;> omega
theorem md_pm (h : pm_K M M') (hd : md_is M fr Z) : md_is M' fr Z := by
  unfold md_is
  rw [h.2 19 (by decide) (by decide) (by decide) (by decide) (by decide), h.2 18 (by decide) (by decide) (by decide) (by decide) (by decide), h.2 20 (by decide) (by decide) (by decide) (by decide) (by decide), h.1 95 (by decide) (by decide), h.1 96 (by decide) (by decide), h.1 97 (by decide) (by decide), h.1 98 (by decide) (by decide)]
  exact hd
theorem pm_me (h : me_K M M') (hd : pm_is M L s) : pm_is M' L s := by
  unfold pm_is om_b om_is
  rw [h.2 10 (by decide) (by decide) (by decide), h.2 21 (by decide) (by decide) (by decide), h.2 23 (by decide) (by decide) (by decide), h.2 24 (by decide) (by decide) (by decide), h.2 25 (by decide) (by decide) (by decide), h.1 91 (by decide) (by decide) (by decide) (by decide) (by decide)]
  exact hd
def mw_K (M M' : rl_M) : Prop := (∀ b, ¬ b = 84 → ¬ b = 91 → (b < 95 ∨ 99 ≤ b) → M' b = M b) ∧ ∀ k, k < 10 → M' 84 k = M 84 k
theorem mw_K.tr {M2 : rl_M} (h : mw_K M M') (h2 : mw_K M' M2) : mw_K M M2 := ⟨fun b q1 q2 q3 => (h2.1 b q1 q2 q3).trans (h.1 b q1 q2 q3), fun k q => (h2.2 k q).trans (h.2 k q)⟩
theorem mw_pm (h : pm_K M M') : mw_K M M' := ⟨fun b q1 q2 _ => h.1 b q1 q2, fun k q => h.2 k (by omega) (by omega) (by omega) (by omega) (by omega)⟩
theorem mw_me (h : me_K M M') : mw_K M M' := ⟨fun b q1 q2 q3 => h.1 b q1 (by omega) (by omega) (by omega) (by omega), fun k q => h.2 k (by omega) (by omega) (by omega)⟩
theorem bs_n0 (h : bt_n s ≤ 402) (hL : L.length ≤ 690) : (bs_o (bs_f L s.1)).length + 1 < 800 := by
  have := bs_olen s.1 L [] (by decide)
  unfold bt_n at h
  have e : (bs_o (bs_f L s.1)).length ≤ L.length + 0 + 1 + 2 * s.1.length := this
  omega
theorem cm_code2 (hf : fr ≤ 16) (h : lz_ok fr Z) (hbf : Z.2.1 = -1 ∨ ∃ b : Nat, b < 64 ∧ Z.2.1 = Int32.ofNat b) (hd : md_is M fr Z) (hs : pm_is M L s) (ho : pk_ok s) (hc : code < 2 ^ gw fr Z) (hb : bt_n s ≤ 402) (hL : L.length ≤ 690)
    (hk : ∀ M', pm_K M M' → pm_is M' L (pk_b s code (gw fr Z)) → Q (.inl none) (M', J, rf_w r, sh_w N, n)) : mc_WP (mc_en 84 [.ref 84, .int (Int32.ofNat code)] (M, J, rf_w r, sh_w N, n)) Q := by
  have w6 := gw_6 (fr := fr) (Z := Z)
  have c64 : code < 64 := Nat.lt_of_lt_of_le hc (Nat.pow_le_pow_right (n := 2) (by decide) w6)
  rw [pkb_eq _ _ _ ho hc (by have := ho.1; omega)] at hk
  refine cm_code (en := fr + 1) (nx := Z.1) (bf := Z.2.1) hs ho c64 hd.1.1 hd.1.2.1 hd.1.2.2 ?_ ⟨by omega, by omega⟩ h.1.2 hc (bs_n0 hb hL) hk
  rcases hbf with z | ⟨b, b1, z⟩
  · exact Or.inl z
  · right; rw [z, on_t (by omega)]; omega
/-- what is left of the bits is a byte -/
def fl_s (s : List Int32 × Nat × Nat) : List Int32 := if s.2.2 = 0 then s.1 else s.1 ++ [Int32.ofNat s.2.1]
theorem cm_pixels (hf : fr ≤ 16) (hd : md_is M fr (lz_0 fr)) (ho : om_is M L) (hL : L.length ≤ 690) (hP : px_m M P) (hv : vl_p fr P) (hl : P.length ≤ 64)
    (hk : ∀ M', mw_K M M' → om_is M' (bs_o (bs_f L (fl_s (wr_f fr P.length (lz_0 fr) P (pk_b ([], 0, 0) fr (gw fr (lz_0 fr)))))) ++ [0]) → Q (.inl none) (M', J, rf_w r, sh_w N, n)) :
    mc_WP (mc_en 88 [.ref 84, .int (Int32.ofNat P.length)] (M, J, rf_w r, sh_w N, n)) Q := by
  have hok0 := l0_ok (fr := fr) hf
  have o0 : pk_ok ([], 0, 0) := ⟨by decide, by decide⟩
  have hw0 := gw_6 (fr := fr) (Z := lz_0 fr)
  have b0 := bt_b (gw fr (lz_0 fr)) fr ([], 0, 0)
  have e0 : bt_n ([], 0, 0) = 0 := rfl
  have hfin : bt_n (wr_f fr P.length (lz_0 fr) P (pk_b ([], 0, 0) fr (gw fr (lz_0 fr)))) ≤ 402 := wr_len hf _ _ _ _ 0 0 hok0 l0_at hv (by omega) (Nat.le_refl _) (by omega) (by show fr + 2 + 46 * 0 ≤ 18 + 0; omega)
  have hfok : pk_ok (wr_f fr P.length (lz_0 fr) P (pk_b ([], 0, 0) fr (gw fr (lz_0 fr)))) := wr_ok _ _ _ _ (pk_bok _ _ _ o0)
  -- the end
  have fin : ∀ (M1 : rl_M) (x2 : Int32) (x3 x4 : Value), mw_K M M1 → pm_is M1 L (wr_f fr P.length (lz_0 fr) P (pk_b ([], 0, 0) fr (gw fr (lz_0 fr)))) → mc_WP (88, 114, [.ref 84, .int (Int32.ofNat P.length), .int x2, x3, x4], [], (M1, J, rf_w r, sh_w N, n), (0, 0)) Q := fun M1 x2 x3 x4 k1 s1 => by
    generalize hS : wr_f fr P.length (lz_0 fr) P (pk_b ([], 0, 0) fr (gw fr (lz_0 fr))) = S at *
    have hbo := bs_n0 hfin hL
    obtain ⟨D, v, c⟩ := S
    obtain ⟨s11, s12, s13⟩ := s1
    obtain ⟨f1, f2⟩ := hfok
    dsimp only at s11 s12 s13 f1 f2 hbo
    have zero : ∀ (M2 : rl_M) (D' : List Int32), mw_K M M2 → om_is M2 (bs_o (bs_f L D')) → D' = fl_s (D, v, c) → (bs_o (bs_f L D')).length < 800 → mc_WP (88, 133, [.ref 84, .int (Int32.ofNat P.length), .int x2, x3, x4], [], (M2, J, rf_w r, sh_w N, n), (0, 0)) Q := fun M2 D' k2 m2 hD hlt => by
      obtain ⟨m21, m22⟩ := m2
      refine bk_88_133 ?_
      rw [m21, on_n (by omega), on_1]
      refine ⟨on_vp (by omega) hlt, hk _ ⟨fun b q1 q2 q3 => by rw [up_ne q1, up_ne q2]; exact k2.1 b q1 q2 q3, fun k q => by rw [up_nk (by omega), up_ne (by decide)]; exact k2.2 k q⟩ ?_⟩
      rw [← hD]
      refine ⟨by rw [up_at, List.length_append]; rfl, ob_app m22 (fun k hk' => ?_) ?_⟩
      · rw [up_ne (by decide), up_nk (by omega)]
      · rw [up_ne (by decide), up_at]
    refine bk_88_114 ?_
    rw [s13, s12]
    refine ⟨fun q => zero M1 D k1 s11.1 ?_ (by omega), fun q => mc_inl ?_⟩
    · have := (on_le (m := 0) (by omega) (by omega)).mp q
      unfold fl_s
      rw [if_pos (show c = 0 by omega)]
    · have hc0 : ¬ c = 0 := fun z => q ((on_le (m := 0) (by omega) (by omega)).mpr (by omega))
      have hv256 : v < 256 := by
        have : 2 ^ c ≤ 2 ^ 8 := Nat.pow_le_pow_right (by decide) (by omega)
        have e : (2 : Nat) ^ 8 = 256 := rfl
        omega
      rw [(bn_sh8 (t := v) (by omega)).2, Nat.mod_eq_of_lt hv256]
      refine cm_data s11 hbo fun M2 k2 m2 _ _ => ?_
      refine zero M2 (D ++ [Int32.ofNat v]) (k1.tr (mw_pm k2)) m2.1 (by unfold fl_s; rw [if_neg hc0]) ?_
      have := bs_olen (D ++ [Int32.ofNat v]) L [] (by decide)
      have e : (bs_o (bs_f L (D ++ [Int32.ofNat v]))).length ≤ L.length + 0 + 1 + 2 * (D ++ [Int32.ofNat v]).length := this
      rw [List.length_append, List.length_singleton] at e
      have hfin' : 8 * D.length + c ≤ 402 := hfin
      omega
  have run : ∀ t d (Z : lz_Z) (s : List Int32 × Nat × Nat) (M1 : rl_M) (x3 x4 : Value), P.length ≤ d + t → d ≤ P.length → (d < P.length → Z.1 ≤ 63) → lz_ok fr Z → lz_at fr Z (P.drop d) → md_is M1 fr Z → pm_is M1 L s → pk_ok s → mw_K M M1 → wr_f fr t Z (P.drop d) s = wr_f fr P.length (lz_0 fr) P (pk_b ([], 0, 0) fr (gw fr (lz_0 fr))) →
      mc_WP (88, 25, [.ref 84, .int (Int32.ofNat P.length), .int (Int32.ofNat d), x3, x4], [], (M1, J, rf_w r, sh_w N, n), (0, 0)) Q := by
    intro t
    have done : ∀ t d (Z : lz_Z) (s : List Int32 × Nat × Nat) (M1 : rl_M) (x3 x4 : Value), d = P.length → lz_ok fr Z → lz_at fr Z (P.drop d) → md_is M1 fr Z → pm_is M1 L s → pk_ok s → mw_K M M1 → wr_f fr t Z (P.drop d) s = wr_f fr P.length (lz_0 fr) P (pk_b ([], 0, 0) fr (gw fr (lz_0 fr))) →
        mc_WP (88, 25, [.ref 84, .int (Int32.ofNat P.length), .int (Int32.ofNat d), x3, x4], [], (M1, J, rf_w r, sh_w N, n), (0, 0)) Q := by
      intro t d Z s M1 x3 x4 e1 hok hat d1 s1 o1 k1 heq
      have hm := wr_mono (fr := fr) t Z (P.drop d) s
      rw [heq] at hm
      rw [e1, List.drop_length, wr_nil] at heq
      refine bk_88_25 ⟨fun _ => mc_inl ?_, fun q => absurd ((on_le (by omega) (by omega)).mpr (by omega)) q⟩
      rw [d1.1.1, on_1]
      refine cm_code2 hf hok (at_bf hf hok hat) d1 s1 o1 (gw_fr hf hok) (by omega) hL fun M2 k2 s2 => ?_
      rw [heq] at s2
      exact fin M2 _ _ _ (k1.tr (mw_pm k2)) s2
    induction t with
    | zero =>
      intro d Z s M1 x3 x4 h1 h2 h3 hok hat d1 s1 o1 k1 heq
      exact done 0 d Z s M1 x3 x4 (by omega) hok hat d1 s1 o1 k1 heq
    | succ t ih =>
      intro d Z s M1 x3 x4 h1 h2 h3 hok hat d1 s1 o1 k1 heq
      by_cases q : d = P.length
      · exact done (t + 1) d Z s M1 x3 x4 q hok hat d1 s1 o1 k1 heq
      · have hm := wr_mono (fr := fr) (t + 1) Z (P.drop d) s
        rw [heq] at hm
        have hdl : d < P.length := by omega
        have hz63 := h3 hdl
        have hx : P.drop d = P[d] :: P.drop (d + 1) := List.drop_eq_getElem_cons hdl
        generalize P[d] = x at hx
        generalize P.drop (d + 1) = R at hx
        have p1 : px_m M1 P := fun k a hk' => by rw [k1.1 99 (by decide) (by decide) (by omega)]; exact hP k a hk'
        refine bk_88_25 ⟨fun q => absurd ((on_le (by omega) (by omega)).mp q) (by omega), fun _ => mc_inl ?_⟩
        refine cm_longest hf hok d1 p1 hv hl hdl hat hx fun c hg => ?_
        rw [hx] at hat heq
        have hok' := nw_ok hf hok hat
        have z1 := hok.1
        have z2 := hok'.1
        have n1 := nw_1 (Z := Z) (x := x)
        have hc64 := va_lt hok' hf hg.1
        obtain ⟨l1, l2⟩ := gd_b hok' hg
        have hRl : (x :: R).length = P.length - d := by rw [← hx, List.length_drop]
        have hdd : (x :: R).drop ((lz_nw Z x).2.2.1 c).length = P.drop (d + ((lz_nw Z x).2.2.1 c).length) := by rw [← hx, List.drop_drop]
        have hat2 := bf_at hok' hg
        rw [hdd] at hat2
        -- behind the code
        have next : ∀ (f : Int32) (M2 : rl_M), pm_K M1 M2 → pm_is M2 L (pk_b s c (gw fr Z)) → ((lz_nw Z x).1 = 64 → ¬ f = 0) → (¬ (lz_nw Z x).1 = 64 → f = 0) → mc_WP (88, 65, [.ref 84, .int (Int32.ofNat P.length), .int (Int32.ofNat d), .int (Int32.ofNat c), .int f], [], (M2, J, rf_w r, sh_w N, n), (0, 0)) Q := fun f M2 k2 s2 hf1 hf0 => by
          have d2 := md_pm k2 d1
          refine bk_88_65 (mc_inl ?_)
          refine cm_enter hf hok hat d2 hg fun M3 k3 d3 => ?_
          have s3 := pm_me k3 s2
          have k13 : mw_K M M3 := (k1.tr (mw_pm k2)).tr (mw_me k3)
          have h98 : M3 98 c = Int32.ofNat ((lz_nw Z x).2.2.1 c).length := (d3.2.1 c hg.1).2.2
          refine bk_88_70 ?_
          rw [on_n (by omega), h98, ← Int32.ofNat_add]
          have keep : ∀ x3 x4, ¬ ((lz_nw Z x).1 = 64 ∧ (x :: R).drop ((lz_nw Z x).2.2.1 c).length ≠ []) → mc_WP (88, 25, [.ref 84, .int (Int32.ofNat P.length), .int (Int32.ofNat (d + ((lz_nw Z x).2.2.1 c).length)), x3, x4], [], (M3, J, rf_w r, sh_w N, n), (0, 0)) Q := fun x3 x4 z => by
            have heq2 := heq
            rw [wr_go hok' hg z, hdd] at heq2
            refine ih _ _ _ M3 x3 x4 (by omega) (by omega) (fun y => ?_) (bf_ok hok') hat2 d3 s3 (pk_bok _ _ _ o1) k13 heq2
            show (lz_nw Z x).1 ≤ 63
            refine Nat.le_of_lt_succ (Nat.lt_of_le_of_ne z2.2 fun w => z ⟨w, fun u => ?_⟩)
            have := List.drop_eq_nil_iff.mp u
            omega
          refine ⟨on_vp (by omega) (by omega), fun q => keep _ _ fun y => hf1 y.1 q, fun q => ⟨fun q2 => keep _ _ fun y => y.2 ?_, fun q2 => mc_inl ?_⟩⟩
          · have := (on_le (by omega) (by omega)).mp q2
            exact List.drop_eq_nil_of_le (by omega)
          · have z' : (lz_nw Z x).1 = 64 := Classical.byContradiction fun y => q (hf0 y)
            have q2' : ¬ P.length ≤ d + ((lz_nw Z x).2.2.1 c).length := fun y => q2 ((on_le (by omega) (by omega)).mpr y)
            have z2' : (x :: R).drop ((lz_nw Z x).2.2.1 c).length ≠ [] := fun y => by
              have := List.drop_eq_nil_iff.mp y
              omega
            have heq2 := heq
            rw [wr_rf hok' hg z' z2', hdd] at heq2
            have hm2 := wr_mono (fr := fr) t (lz_rf fr (lz_nw Z x)) (P.drop (d + ((lz_nw Z x).2.2.1 c).length)) (pk_b (pk_b s c (gw fr Z)) fr (gw fr (lz_bf (lz_nw Z x) c)))
            rw [heq2, bt_b] at hm2
            rw [d3.1.1]
            refine cm_code2 hf (bf_ok hok') (at_bf hf (bf_ok hok') hat2) d3 s3 (pk_bok _ _ _ o1) (by have := gw_fr hf (bf_ok (c := c) hok'); omega) (by omega) hL fun M4 k4 s4 => ?_
            have d4 := md_pm k4 d3
            refine bk_88_97 ?_
            rw [d4.1.1, on_p2]
            refine ih _ _ _ _ _ _ (by omega) (by omega) (fun _ => by show fr + 2 ≤ 63; omega) (rf_ok (by omega) hok') rf_at ⟨⟨?_, ?_, ?_⟩, ?_⟩ (pm_me ⟨fun b q _ _ _ _ => by rw [up_ne q, up_ne q], fun k q1 _ q2 => by rw [up_nk q2, up_nk q1]⟩ s4) (pk_bok _ _ _ (pk_bok _ _ _ o1)) ((k13.tr (mw_pm k4)).tr ⟨fun b q _ _ => by rw [up_ne q, up_ne q], fun k q => by rw [up_nk (by omega), up_nk (by omega)]⟩) heq2
            · rw [up_nk (by decide), up_nk (by decide)]; exact d4.1.1
            · rw [up_nk (by decide), up_at]; rfl
            · rw [up_at]; rfl
            · rw [up_ne (by decide), up_ne (by decide), up_ne (by decide), up_ne (by decide), up_ne (by decide), up_ne (by decide), up_ne (by decide), up_ne (by decide)]
              exact tb_rf d4.2
        have cod : ∀ (f : Int32), ((lz_nw Z x).1 = 64 → ¬ f = 0) → (¬ (lz_nw Z x).1 = 64 → f = 0) → mc_WP (mc_en 84 [.ref 84, .int (Int32.ofNat c)] (M1, J, rf_w r, sh_w N, n)) (mc_kr (fun v t => mc_WP (88, 65, [.ref 84, .int (Int32.ofNat P.length), .int (Int32.ofNat d), .int (Int32.ofNat c), .int f], v.toList ++ [], t, (0, 0)) Q) fun k t => Q (.inr k) t) := fun f hf1 hf0 =>
          cm_code2 hf hok (at_bf hf hok hat) d1 s1 o1 (gw_c hf hok hat hok' hg.1) (by omega) hL fun M2 k2 s2 => next f M2 k2 s2 hf1 hf0
        refine bk_88_36 ?_
        rw [d1.1.2.2, d1.1.2.1, bf_lt0 (at_bf hf hok hat), show (63 : Int32) = Int32.ofNat 63 from rfl, on_eq (by omega) (by omega)]
        refine ⟨fun y => mc_inl (cod 0 (fun w => ?_) fun _ => rfl), fun y => ⟨fun y2 => mc_inl (cod 0 (fun w => ?_) fun _ => rfl), fun y2 => mc_inl (cod 1 (fun _ => by decide) fun w => absurd ?_ w)⟩⟩
        · rw [nw_old (Or.inl y)] at w
          omega
        · omega
        · rw [nw_new (fun u => by rcases u with u | u; exact y u; omega)]
          show Z.1 + 1 = 64
          omega
  refine bk_88_0 (mc_inl ?_)
  generalize hM0 : mc_up (mc_up (mc_up M 84 24 0) 84 25 0) 84 23 0 = M0
  have m0 : ∀ b, ¬ b = 84 → M0 b = M b := fun b q => by rw [← hM0, up_ne q, up_ne q, up_ne q]
  have m1 : ∀ k, ¬ k = 23 → ¬ k = 24 → ¬ k = 25 → M0 84 k = M 84 k := fun k q1 q2 q3 => by rw [← hM0, up_nk q1, up_nk q3, up_nk q2]
  have s0 : pm_is M0 L ([], 0, 0) := by
    refine ⟨⟨⟨?_, ?_⟩, ?_, fun q => absurd rfl q⟩, ?_, ?_⟩
    · rw [m1 10 (by decide) (by decide) (by decide)]; exact ho.1
    · rw [m0 91 (by decide)]; exact ho.2
    · rw [← hM0, up_at]; rfl
    · rw [← hM0, up_nk (by decide), up_nk (by decide), up_at]; rfl
    · rw [← hM0, up_nk (by decide), up_at]; rfl
  have d0 : md_is M0 fr (lz_0 fr) := by
    unfold md_is
    rw [m1 19 (by decide) (by decide) (by decide), m1 18 (by decide) (by decide) (by decide), m1 20 (by decide) (by decide) (by decide), m0 95 (by decide), m0 96 (by decide), m0 97 (by decide), m0 98 (by decide)]
    exact hd
  rw [hd.1.1]
  refine cm_code2 hf hok0 (Or.inl rfl) d0 s0 o0 (by have := gw_fr hf hok0; omega) (by omega) hL fun M1 k1 s1 => ?_
  refine bk_88_23 ?_
  exact run P.length 0 (lz_0 fr) _ M1 _ _ (by omega) (by omega) (fun _ => by show fr + 2 ≤ 63; omega) hok0 l0_at (md_pm k1 d0) s1 (pk_bok _ _ _ o0) (mw_K.tr ⟨fun b q _ _ => m0 b q, fun k q => m1 k (by omega) (by omega) (by omega)⟩ (mw_pm k1)) rfl
end
