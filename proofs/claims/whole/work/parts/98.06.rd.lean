/-! read: the class's codes and strings -/
section
variable {I M M' : rl_M} {J : Nat → Nat → Int64} {r N n : Nat} {Q : mc_Q} {B : rd_B} {a b c e k m L v s fr ls z tot a1 : Nat} {D A : List Nat} {st : rd_S} {Z : lz_Z} {x : Int32} {P : List Int32}
theorem on_dv {d : Nat} (h : b < 2147483648) (hd : 1 ≤ d ∧ d < 2147483648) : Int32.ofNat b / Int32.ofNat d = Int32.ofNat (b / d) := by
  have hle : b / d ≤ b := Nat.div_le_self b d
  rw [← Int32.toInt_inj, Int32.toInt_div, on_t h, on_t hd.2, on_t (by omega), Int.tdiv_eq_ediv_of_nonneg (by omega)]
  have e : (b : Int) / (d : Int) = ((b / d : Nat) : Int) := (Int.natCast_ediv b d).symm
  rw [e]
  generalize b / d = q at *
  rw [Int.bmod_def]
  omega
theorem on_d8 (h : b < 2147483648) : Int32.ofNat b / 8 = Int32.ofNat (b / 8) := on_dv (d := 8) h (by decide)
theorem on_r8 (h : b < 2147483648) : Int32.ofNat b - Int32.ofNat b / 8 * 8 = Int32.ofNat (b % 8) := by
  rw [on_d8 h, show (8 : Int32) = Int32.ofNat 8 from rfl, ← Int32.ofNat_mul, on_sub (by omega)]
  congr 1
  omega
theorem bt_y : ∀ y : Fin 256, ∀ i : Fin 8, (Int32.ofNat y.1 >>> (Int32.ofNat i.1 &&& 31)) &&& (1 : Int32) = Int32.ofNat (y.1 / 2 ^ i.1 % 2) := by decide +kernel
def tc_K (M M' : rl_M) : Prop := (∀ b, ¬ b = 65 → ¬ b = 74 → M' b = M b) ∧ (∀ k, ¬ k = 4 → M' 65 k = M 65 k) ∧ M' 74 1 = M 74 1
theorem cc_w68 (hf : fr ≤ 16) (h : wk_ok fr Z) (hd : cd_is M 68 fr Z) (hk : Q (.inl (some (.int (Int32.ofNat (gw fr Z))))) (M, J, rf_w r, sh_w N, n)) : mc_WP (mc_en 199 [.ref 68] (M, J, rf_w r, sh_w N, n)) Q :=
  cc_width (en := fr + 1) (nx := Z.1) (bf := Z.2.1) (by decide) hd.1.2.1 hd.1.2.2.1 hd.1.2.2.2 (by omega) h.1.2 hk
theorem cc_tcode (hf : fr ≤ 16) (h : wk_ok fr Z) (hd : cd_is M 68 fr Z) (hB : rd_ok B) (hh : hd_is M D) (hD : ∀ y ∈ D, y < 256) (hl : D.length ≤ 800) (hb : M 65 4 = Int32.ofNat b) (hs : bs_D B D ls z b st)
    (hn : ∀ M' b', tc_K M M' → tc_f B (gw fr Z) st = none → M' 74 2 = 0 → b' ≤ 6400 → M' 65 4 = Int32.ofNat b' → Q (.inl (some (.int 0))) (M', J, rf_w r, sh_w N, n))
    (hk : ∀ M' code st', tc_K M M' → tc_f B (gw fr Z) st = some (code, st') → M' 65 4 = Int32.ofNat (b + gw fr Z) → bs_D B D ls z (b + gw fr Z) st' → M' 74 = M 74 → Q (.inl (some (.int (Int32.ofNat code)))) (M', J, rf_w r, sh_w N, n)) :
    mc_WP (mc_en 166 [.ref 65] (M, J, rf_w r, sh_w N, n)) Q := by
  have w6 := gw_6 (fr := fr) (Z := Z)
  refine bk_166_0 (mc_inl (cc_w68 hf h hd ?_))
  refine bk_166_9 ?_
  generalize hw : gw fr Z = w at *
  have run : ∀ d i acc b' (st' : rd_S) (M1 : rl_M) (x4 : Value), i + d = w → acc < 2 ^ i → tc_K M M1 → M1 74 = M 74 → M1 65 4 = Int32.ofNat b' → bs_D B D ls z b' st' → b' = b + i → (∀ c s', tc_f B d st' = some (c, s') → tc_f B w st = some (acc + 2 ^ i * c, s')) → (tc_f B d st' = none → tc_f B w st = none) →
      mc_WP (166, 12, [.ref 65, .int (Int32.ofNat acc), .int (Int32.ofNat w), .int (Int32.ofNat i), x4], [], (M1, J, rf_w r, sh_w N, n), (0, 0)) Q := by
    intro d
    induction d with
    | zero =>
      intro i acc b' st' M1 x4 hi ha k1 c1 e1 s1 hbi h1 h0
      have := h1 0 st' (tc_0 rfl)
      rw [Nat.mul_zero, Nat.add_zero] at this
      refine bk_166_12 ⟨fun _ => hk M1 acc st' k1 this (by rw [e1, hbi]; congr 2) (by rw [show b + w = b' by omega]; exact s1) c1, fun q => absurd ((on_le (by omega) (by omega)).mpr (by omega)) q⟩
    | succ d ih =>
      intro i acc b' st' M1 x4 hi ha k1 c1 e1 s1 hbi h1 h0
      have hv := bsD_v hD s1
      have ts := tc_succ (B := B) (w := d) (st := st') (by omega) hv.1
      have hb4 : b' ≤ 8 * D.length := s1.2.2.2
      have e66 : M1 66 1 = Int32.ofNat D.length := by rw [k1.1 66 (by decide) (by decide)]; exact hh.1
      refine bk_166_12 ⟨fun q => absurd ((on_le (by omega) (by omega)).mp q) (by omega), fun _ => ⟨by decide, ?_⟩⟩
      rw [e1, on_r8 (by omega), on_d8 (by omega), e66, on_n (by omega), on_1 (k := b'), on_1 (k := i)]
      rcases bsD_1 hB.1 hD s1 with ⟨t1, t2⟩ | ⟨y, s', t1, t2, t3, t4⟩
      · refine ⟨fun q => absurd ((on_lt (by omega) (by omega)).mp q) (by omega), fun _ => ?_⟩
        rw [t1] at ts
        refine hn _ b' ⟨fun b q1 q2 => by rw [up_ne q2]; exact k1.1 b q1 q2, fun k q => by rw [up_ne (by decide)]; exact k1.2.1 k q, by rw [up_nk (by decide)]; exact k1.2.2⟩ (h0 ts) up_at (by omega) (by rw [up_ne (by decide)]; exact e1)
      · have hy := hD y (List.mem_of_getElem? t2)
        have e67 : M1 67 (b' / 8) = Int32.ofNat y := by rw [k1.1 67 (by decide) (by decide)]; exact hh.2 _ _ t2
        have hbit : (Int32.ofNat y >>> (Int32.ofNat (b' % 8) &&& 31)) &&& (1 : Int32) = Int32.ofNat (y / 2 ^ (b' % 8) % 2) := bt_y ⟨y, hy⟩ ⟨b' % 8, Nat.mod_lt _ (by decide)⟩
        have hb2 : y / 2 ^ (b' % 8) % 2 < 2 := Nat.mod_lt _ (by decide)
        rw [e67, hbit]
        generalize hbe : y / 2 ^ (b' % 8) % 2 = bit at *
        rw [bt_or (by omega) ha (by omega)]
        rw [t3] at ts
        refine ⟨fun _ => ⟨on_vp (by omega) (by omega), by decide, ?_⟩, fun q => absurd ((on_lt (by omega) (by omega)).mpr (by omega)) q⟩
        refine ih (i + 1) _ (b' + 1) s' _ _ (by omega) ?_ ⟨fun b q1 q2 => by rw [up_ne q1]; exact k1.1 b q1 q2, fun k q => by rw [up_nk q]; exact k1.2.1 k q, by rw [up_ne (by decide)]; exact k1.2.2⟩ (by rw [up_ne (by decide)]; exact c1) up_at t4 (by omega) (fun c s2 hc => ?_) (fun hc => h0 ?_)
        · rw [Nat.pow_succ]
          have : bit * 2 ^ i ≤ 1 * 2 ^ i := Nat.mul_le_mul_right _ (by omega)
          omega
        · have := h1 (bit + 2 * c) s2 (by rw [ts]; show Option.map _ (tc_f B d s') = _; rw [hc]; rfl)
          rw [this]
          congr 2
          rw [Nat.mul_add, Nat.pow_succ, Nat.mul_assoc, Nat.mul_comm bit, Nat.add_assoc]
        · rw [ts]; show Option.map _ (tc_f B d s') = none; rw [hc]; rfl
  exact run w 0 0 b st M .null (by omega) (by decide) ⟨fun _ _ _ => rfl, fun _ _ => rfl, rfl⟩ rfl hb hs rfl (fun c s' hc => by rw [hc, Nat.pow_zero, Nat.one_mul, Nat.zero_add]) id
/-- once something was wrong: any code -/
theorem cc_tcd (hf : fr ≤ 16) (h : wk_ok fr Z) (hd : cd_is M 68 fr Z) (hL : M 66 1 = Int32.ofNat L) (hl : L ≤ 800) (hb : M 65 4 = Int32.ofNat b) (hb2 : b ≤ 6400) (h74 : M 74 2 = 0)
    (hk : ∀ M' x, tc_K M M' → M' 74 2 = 0 → Q (.inl (some (.int x))) (M', J, rf_w r, sh_w N, n)) :
    mc_WP (mc_en 166 [.ref 65] (M, J, rf_w r, sh_w N, n)) Q := by
  have w6 := gw_6 (fr := fr) (Z := Z)
  refine bk_166_0 (mc_inl (cc_w68 hf h hd ?_))
  refine bk_166_9 ?_
  generalize hw : gw fr Z = w at *
  have run : ∀ d i b' (x1 : Int32) (M1 : rl_M) (x4 : Value), i + d = w → b' + d ≤ 6406 → tc_K M M1 → M1 74 2 = 0 → M1 65 4 = Int32.ofNat b' → mc_WP (166, 12, [.ref 65, .int x1, .int (Int32.ofNat w), .int (Int32.ofNat i), x4], [], (M1, J, rf_w r, sh_w N, n), (0, 0)) Q := by
    intro d
    induction d with
    | zero =>
      intro i b' x1 M1 x4 hi hb' k1 c1 e1
      exact bk_166_12 ⟨fun _ => hk M1 x1 k1 c1, fun q => absurd ((on_le (by omega) (by omega)).mpr (by omega)) q⟩
    | succ d ih =>
      intro i b' x1 M1 x4 hi hb' k1 c1 e1
      have e66 : M1 66 1 = Int32.ofNat L := by rw [k1.1 66 (by decide) (by decide)]; exact hL
      refine bk_166_12 ⟨fun _ => hk M1 x1 k1 c1, fun _ => ⟨by decide, ?_⟩⟩
      rw [e1, on_d8 (by omega), e66, on_n (by omega), on_1 (k := b'), on_1 (k := i)]
      refine ⟨fun q => ⟨on_vp (by omega) (by have := (on_lt (by omega) (by omega)).mp q; omega), by decide, ?_⟩, fun q => hk _ 0 ⟨fun b q1 q2 => by rw [up_ne q2]; exact k1.1 b q1 q2, fun k q => by rw [up_ne (by decide)]; exact k1.2.1 k q, by rw [up_nk (by decide)]; exact k1.2.2⟩ up_at⟩
      refine ih (i + 1) (b' + 1) _ _ _ (by omega) (by omega) ⟨fun b q1 q2 => by rw [up_ne q1]; exact k1.1 b q1 q2, fun k q => by rw [up_nk q]; exact k1.2.1 k q, by rw [up_ne (by decide)]; exact k1.2.2⟩ (by rw [up_ne (by decide)]; exact c1) up_at
  exact run w 0 b 0 M .null (by omega) (by omega) ⟨fun _ _ _ => rfl, fun _ _ => rfl, rfl⟩ h74 hb
/-- the new entry -/
theorem cc_mk (hf : fr ≤ 16) (h : wk_ok fr Z) (hat : wk_at fr Z) (hd : cd_is M 68 fr Z) (hk : ∀ M', cd_K 68 M M' → cd_is M' 68 fr (lz_nw Z x) → Q (.inl none) (M', J, rf_w r, sh_w N, n)) : mc_WP (mc_en 202 [.ref 68, .int x] (M, J, rf_w r, sh_w N, n)) Q := by
  obtain ⟨⟨d1, d2, d3, d4⟩, dt⟩ := id hd
  have z1 := h.1
  have old : ∀ M1 : rl_M, M1 = M → (Z.2.1 = -1 ∨ 63 < Z.1) → mc_WP (202, 4, [.ref 68, .int x], [.int 0], (M1, J, rf_w r, sh_w N, n), (0, 0)) Q := fun M1 e q => by
    rw [e]
    exact bk_202_4 (by decide) ⟨fun _ => hk M (fun _ _ => rfl) (by rw [nw_old q]; exact hd), fun z => absurd rfl z⟩
  refine bk_202_0 (by decide) (mc_inl (bk_198_0 (by decide) ?_))
  rw [d4, d3]
  refine ⟨fun q => old M rfl (Or.inl q), fun q => ⟨fun q2 => old M rfl (Or.inr ((on_lt (k := 63) (by omega) (by omega)).mp q2)), fun q2 => ?_⟩⟩
  have q3 : ¬ 63 < Z.1 := fun z => q2 ((on_lt (k := 63) (by omega) (by omega)).mpr z)
  rcases hat with z | ⟨b, b1, b2⟩
  · exact absurd z.1 q
  · have hb64 := wk_lt h hf b1
    have hnew : lz_nw Z x = _ := nw_new (x := x) (fun z => by rcases z with z | z; exact q z; exact q3 z)
    have hn1 : (lz_nw Z x).1 = Z.1 + 1 := by rw [hnew]
    have hn2 : (lz_nw Z x).2.1 = Z.2.1 := by rw [hnew]
    have n1 : ∀ (I : rl_M) k v, mc_up I 69 k v 68 = I 68 := fun I k v => up_ne (by decide)
    have n2 : ∀ (I : rl_M) k v, mc_up I 70 k v 68 = I 68 := fun I k v => up_ne (by decide)
    have n3 : ∀ (I : rl_M) k v, mc_up I 71 k v 68 = I 68 := fun I k v => up_ne (by decide)
    have n4 : ∀ (I : rl_M) k v, mc_up I 72 k v 68 = I 68 := fun I k v => up_ne (by decide)
    have n5 : ∀ (I : rl_M) k v, mc_up I 69 k v 70 = I 70 := fun I k v => up_ne (by decide)
    have n6 : ∀ (I : rl_M) k v, mc_up I 69 k v 72 = I 72 := fun I k v => up_ne (by decide)
    have n7 : ∀ (I : rl_M) k v, mc_up I 70 k v 72 = I 72 := fun I k v => up_ne (by decide)
    have n8 : ∀ (I : rl_M) k v, mc_up I 71 k v 72 = I 72 := fun I k v => up_ne (by decide)
    refine bk_202_4 (by decide) ⟨fun z => absurd z (by decide), fun _ => ?_⟩
    simp only [Nat.reduceAdd, n1, n2, n3, n4, n5, n6, n7, n8, d3, d4]
    rw [b2, on_n (k := b) (by omega), on_n (k := Z.1) (by omega), on_1 (k := Z.1)]
    refine ⟨on_vp (by omega) (by omega), on_vp (by omega) (by omega), on_vp (by omega) (by omega), on_vp (by omega) (by omega), on_vp (by omega) (by omega), on_vp (by omega) (by omega), hk _ (fun b q => ?_) ⟨⟨?_, ?_, ?_, ?_⟩, ?_⟩⟩
    · rw [up_ne (by omega), up_ne (by omega), up_ne (by omega), up_ne (by omega), up_ne (by omega)]
    · rw [up_nk (by decide), up_ne (by decide), up_ne (by decide), up_ne (by decide), up_ne (by decide)]; exact d1
    · rw [up_nk (by decide), up_ne (by decide), up_ne (by decide), up_ne (by decide), up_ne (by decide)]; exact d2
    · rw [up_at, hn1]
    · rw [up_nk (by decide), up_ne (by decide), up_ne (by decide), up_ne (by decide), up_ne (by decide), hn2]; exact d4
    · refine tb_nww hb64 dt b1 b2 (by omega) (fun k => ?_) (fun k => ?_) (fun k => ?_) fun k => ?_
      · rw [show (68 + 1 : Nat) = 69 from rfl, up_ne (by decide), up_ne (by decide), up_ne (by decide), up_ne (by decide), up_row]
      · rw [show (68 + 2 : Nat) = 70 from rfl, up_ne (by decide), up_ne (by decide), up_ne (by decide), up_row, up_ne (by decide)]
      · rw [show (68 + 3 : Nat) = 71 from rfl, up_ne (by decide), up_ne (by decide), up_row, up_ne (by decide), up_ne (by decide)]
      · rw [show (68 + 4 : Nat) = 72 from rfl, up_ne (by decide), up_row, up_ne (by decide), up_ne (by decide), up_ne (by decide)]
theorem cc_first (hf : fr ≤ 16) (h : wk_ok fr Z) (hat : wk_at fr Z) (hd : cd_is M 68 fr Z) (ha : al_c fr Z c) (hk : Q (.inl (some (.int (fs_c Z c)))) (M, J, rf_w r, sh_w N, n)) : mc_WP (mc_en 201 [.ref 68, .int (Int32.ofNat c)] (M, J, rf_w r, sh_w N, n)) Q := by
  obtain ⟨⟨d1, d2, d3, d4⟩, t1, t2⟩ := hd
  have z1 := h.1
  have hd0 : ∀ e, va_c fr Z e → M (68 + 2) e = (Z.2.2.1 e).headD 0 := fun e he => by
    have := (t1 e he).1
    rw [List.headD_eq_head?_getD, this]; rfl
  refine bk_201_0 (by decide) ?_
  rw [d3, d4]
  unfold fs_c at hk
  refine ⟨fun q => ?_, fun q => ?_⟩
  · have hc : c = Z.1 := by
      rcases ha with w | w | w
      · have := (on_le (by omega) (by omega)).mp q; omega
      · have := (on_le (by omega) (by omega)).mp q; omega
      · exact w.1
    rcases hat with w | ⟨b, b1, b2⟩
    · rcases ha with v | v | v
      · omega
      · omega
      · exact absurd w.1 v.2.1
    · have hb64 := wk_lt h hf b1
      rw [b2, on_n (by omega)] at hk
      rw [b2, on_n (by omega), hd0 b b1]
      rw [if_neg (by omega)] at hk
      exact ⟨on_vp (by omega) hb64, hk⟩
  · have hc : c < Z.1 ∧ c < 64 := by
      rcases ha with w | w | w
      · omega
      · omega
      · exact absurd ((on_le (by omega) (by omega)).mpr (by omega)) q
    rw [if_pos hc.1] at hk
    rw [on_n (by omega), hd0 c (by rcases ha with w | w | w; exact Or.inl w; exact Or.inr w; omega)]
    exact ⟨on_vp (by omega) hc.2, hk⟩
theorem cc_allows (hf : fr ≤ 16) (h : wk_ok fr Z) (hd : cd_is M 68 fr Z) (hc : c < 64) (h1 : al_c fr Z c → Q (.inl (some (.int 1))) (M, J, rf_w r, sh_w N, n)) (h0 : ¬ al_c fr Z c → Q (.inl (some (.int 0))) (M, J, rf_w r, sh_w N, n)) : mc_WP (mc_en 200 [.ref 68, .int (Int32.ofNat c)] (M, J, rf_w r, sh_w N, n)) Q := by
  obtain ⟨⟨d1, d2, d3, d4⟩, -⟩ := hd
  have z1 := h.1
  refine bk_200_0 (by decide) ?_
  rw [d1, d2, d3, d4, on_lt (by omega) (by omega), on_le (by omega) (by omega), on_eq (by omega) (by omega), on_lt (k := c) (m := Z.1) (by omega) (by omega)]
  have e63 : ((63 : Int32) < Int32.ofNat Z.1) ↔ 63 < Z.1 := on_lt (k := 63) (by omega) (by omega)
  rw [e63]
  refine ⟨fun q => h1 (Or.inl q), fun q => ⟨fun q2 => ⟨fun q3 => h0 fun w => ?_, fun q3 => ⟨fun q4 => h0 fun w => ?_, fun q4 => ⟨fun q5 => h0 fun w => ?_, fun q5 => h1 (Or.inr (Or.inr ⟨Classical.not_not.mp q3, q4, by omega⟩))⟩⟩⟩, fun q2 => ⟨fun q3 => h1 (Or.inr (Or.inl ⟨by omega, q3⟩)), fun q3 => ⟨fun q4 => h0 fun w => ?_, fun q4 => ⟨fun q5 => h0 fun w => ?_, fun q5 => ⟨fun q6 => h0 fun w => ?_, fun q6 => h1 (Or.inr (Or.inr ⟨Classical.not_not.mp q4, q5, by omega⟩))⟩⟩⟩⟩⟩⟩
  · rcases w with w | w | w
    · exact q w
    · omega
    · exact q3 w.1
  · rcases w with w | w | w
    · exact q w
    · omega
    · exact w.2.1 q4
  · rcases w with w | w | w
    · exact q w
    · omega
    · omega
  · rcases w with w | w | w
    · exact q w
    · exact q3 w.2
    · exact q4 w.1
  · rcases w with w | w | w
    · exact q w
    · exact q3 w.2
    · exact w.2.1 q5
  · rcases w with w | w | w
    · exact q w
    · exact q3 w.2
    · omega
end
