/-! read: the reference's pixels of a frame -/
section
variable {I M M' : rl_M} {J : Nat → Nat → Int64} {r N n : Nat} {Q : mc_Q} {B : rd_B} {S : Option Nat} {a k m b c v w t fr tot pl e : Nat} {Z : lz_Z} {st : rd_S} {P : List Int32} {x1 x2 x3 x4 x5 x6 x7 x8 y0 : Int32} {z6 z7 z8 : Value}
def w2_K (M M' : rl_M) : Prop := (∀ b, ¬ b = 84 → M' b = M b) ∧ (∀ k, ¬ k = 22 → M' 84 k = M 84 k) ∧ M' 84 22 = 0
theorem w2_up : w2_K M (mc_up M 84 22 0) := ⟨fun _ q => up_ne q, fun _ q => up_nk q, up_at⟩
theorem w2_K.tr {M2 : rl_M} (h : w2_K M M') (h2 : w2_K M' M2) : w2_K M M2 := ⟨fun b q => (h2.1 b q).trans (h.1 b q), fun k q => (h2.2.1 k q).trans (h.2.1 k q), h2.2.2⟩
def k31 (x1 x2 x3 x4 : Int32) (M : rl_M) (J : Nat → Nat → Int64) (r N n : Nat) (Q : mc_Q) : Prop := ∀ (M' : rl_M) (x5 : Int32) (z6 z7 z8 : Value), w2_K M M' → mc_WP (100, 31, [.ref 84, .int x1, .int x2, .int x3, .int x4, .int x5, z6, z7, z8], [], (M', J, rf_w r, sh_w N, n), (0, 0)) Q
theorem k31_up (h : k31 x1 x2 x3 x4 M J r N n Q) (h2 : w2_K M M') : k31 x1 x2 x3 x4 M' J r N n Q := fun M2 x5 z6 z7 z8 k => h M2 x5 z6 z7 z8 (h2.tr k)
theorem m_b252 (h0 : M 84 22 = 0) (hk : k31 x1 x2 x3 x4 M J r N n Q) : mc_WP (100, 252, [.ref 84, .int x1, .int x2, .int x3, .int x4, .int x5, .int x6, .int x7, .int x8], [], (M, J, rf_w r, sh_w N, n), (0, 0)) Q :=
  bk_100_252 ⟨fun _ => bk_100_274 (bk_100_275 (hk M _ _ _ _ ⟨fun _ _ => rfl, fun _ _ => rfl, h0⟩)), fun q => absurd h0 q⟩
theorem m_b227 (h0 : M 84 22 = 0) (hk : k31 x1 x2 x3 x4 M J r N n Q) : mc_WP (100, 227, [.ref 84, .int x1, .int x2, .int x3, .int x4, .int x5, .int x6, .int x7, .int x8], [], (M, J, rf_w r, sh_w N, n), (0, 0)) Q :=
  bk_100_227 ⟨fun _ => m_b252 h0 hk, fun q => absurd h0 q⟩
theorem m_b198 (hk : k31 x1 x2 x3 x4 M J r N n Q) : mc_WP (100, 198, [.ref 84, .int x1, .int x2, .int x3, .int x4, .int x5, .int x6, .int x7, .int x8], [.int 0, .ref 84], (M, J, rf_w r, sh_w N, n), (0, 0)) Q :=
  bk_100_198 ⟨Or.inl rfl, fun _ => m_b227 up_at (k31_up hk w2_up), fun q => absurd rfl q⟩
theorem m_b148 (h0 : M 84 22 = 0) (hk : k31 x1 x2 x3 x4 M J r N n Q) : mc_WP (100, 148, [.ref 84, .int x1, .int x2, .int x3, .int x4, .int x5, .int x6, .int x7, z8], [.int y0], (M, J, rf_w r, sh_w N, n), (0, 0)) Q :=
  bk_100_148 ⟨fun _ => bk_100_197 (m_b198 hk), fun q => absurd h0 q⟩
theorem m_b110 (hk : k31 x1 x2 x3 x4 M J r N n Q) : mc_WP (100, 110, [.ref 84, .int x1, .int x2, .int x3, .int x4, .int x5, .int x6, .int x7, z8], [.int 0, .ref 84], (M, J, rf_w r, sh_w N, n), (0, 0)) Q := by
  have g : ∀ y0 : Int32, mc_WP (100, 148, [.ref 84, .int x1, .int x2, .int x3, .int x4, .int x5, .int x6, .int x7, z8], [.int y0], (mc_up M 84 22 0, J, rf_w r, sh_w N, n), (0, 0)) Q := fun y0 => m_b148 up_at (k31_up hk w2_up)
  exact bk_100_110 ⟨Or.inl rfl, fun _ => bk_100_147 (g 0), fun _ => ⟨fun _ => bk_100_147 (g 0), fun _ => ⟨fun _ => bk_100_147 (g 0), fun _ => ⟨fun _ => bk_100_147 (g 0), fun _ => g 1⟩⟩⟩⟩
theorem m_b47 (h0 : M 84 22 = 0) (hk : k31 x1 x2 x3 x4 M J r N n Q) : mc_WP (100, 47, [.ref 84, .int x1, .int x2, .int x3, .int x4, .int x5, z6, z7, z8], [.int y0], (M, J, rf_w r, sh_w N, n), (0, 0)) Q :=
  bk_100_47 ⟨fun _ => bk_100_80 (bk_100_81 ⟨fun _ => bk_100_109 (m_b110 hk), fun q => absurd h0 q⟩), fun q => absurd h0 q⟩
/-- the entry that a code makes -/
theorem cm_enter2 (hf : fr ≤ 16) (h : wk_ok fr Z) (hat : wk_at fr Z) (hd : md_is M fr Z) (ha : al_c fr Z c) (hc : c < 64)
    (hk : ∀ M', me_K M M' → md_is M' fr (lz_bf (lz_nw Z (fs_c Z c)) c) → Q (.inl none) (M', J, rf_w r, sh_w N, n)) : mc_WP (mc_en 80 [.ref 84, .int (Int32.ofNat c)] (M, J, rf_w r, sh_w N, n)) Q := by
  obtain ⟨⟨d1, d2, d3⟩, dt⟩ := id hd
  have z1 := h.1
  have bfl : Z.2.1 = -1 ∨ ∃ b : Nat, b < 64 ∧ Z.2.1 = Int32.ofNat b := by
    rcases hat with z | ⟨b, b1, b2⟩
    · exact Or.inl z.1
    · exact Or.inr ⟨b, wk_lt h hf b1, b2⟩
  have plain : lz_nw Z (fs_c Z c) = Z → Q (.inl none) (mc_up M 84 20 (Int32.ofNat c), J, rf_w r, sh_w N, n) := fun e => by
    rw [e] at hk
    refine hk _ ⟨fun b q _ _ _ _ => up_ne q, fun k _ _ q => up_nk q⟩ ⟨⟨?_, ?_, ?_⟩, ?_⟩
    · rw [up_nk (by decide)]; exact d1
    · rw [up_nk (by decide)]; exact d2
    · rw [up_at]; rfl
    · rw [up_ne (by decide), up_ne (by decide), up_ne (by decide), up_ne (by decide)]; exact tb_bf dt
  refine bk_80_0 ?_
  rw [d3, d2, bf_lt0 bfl, on_n (k := Z.1) (by omega)]
  refine ⟨fun q => plain (nw_old (Or.inl q)), fun q => ⟨fun q2 => plain (nw_old (Or.inr ?_)), fun q2 => ?_⟩⟩
  · have := (on_le (k := 64) (by omega) (by omega)).mp q2
    omega
  · have q3 : ¬ 64 ≤ Z.1 := fun z => q2 ((on_le (k := 64) (by omega) (by omega)).mpr z)
    rcases hat with z | ⟨b, b1, b2⟩
    · exact absurd z.1 q
    · have hb64 := wk_lt h hf b1
      have hnw := nw_new (Z := Z) (x := fs_c Z c) (fun z => by rcases z with z | z; exact q z; omega)
      have hn1 : (lz_nw Z (fs_c Z c)).1 = Z.1 + 1 := by rw [hnw]
      have hbZ : ¬ b = Z.1 := by rcases b1 with w | w <;> omega
      rw [b2, on_n (k := b) (by omega), on_1 (k := Z.1), on_n (k := c) (by omega), on_eq (by omega) (by omega)]
      have done : ∀ y, y = fs_c Z c → Q (.inl none) (mc_up (mc_up (mc_up (mc_up (mc_up (mc_up M 95 Z.1 (Int32.ofNat b)) 97 Z.1 (M 97 b)) 96 Z.1 y) 98 Z.1 (M 98 b + 1)) 84 18 (Int32.ofNat (Z.1 + 1))) 84 20 (Int32.ofNat c), J, rf_w r, sh_w N, n) := fun y hy => by
        refine hk _ ⟨fun b q1 q2 q3 q4 q5 => by rw [up_ne q1, up_ne q1, up_ne q5, up_ne q3, up_ne q4, up_ne q2], fun k q1 _ q2 => by rw [up_nk q2, up_nk q1, up_ne (by decide), up_ne (by decide), up_ne (by decide), up_ne (by decide)]⟩ ⟨⟨?_, ?_, ?_⟩, ?_⟩
        · rw [up_nk (by decide), up_nk (by decide), up_ne (by decide), up_ne (by decide), up_ne (by decide), up_ne (by decide)]; exact d1
        · rw [up_nk (by decide), up_at]; show _ = Int32.ofNat (lz_nw Z (fs_c Z c)).1; rw [hn1]
        · rw [up_at]; rfl
        · refine tb_bf (tb_nww hb64 dt b1 b2 (by omega) (fun k => ?_) (fun k => ?_) (fun k => ?_) fun k => ?_)
          · rw [up_ne (by decide), up_ne (by decide), up_ne (by decide), up_ne (by decide), up_ne (by decide), up_row]
          · rw [up_ne (by decide), up_ne (by decide), up_ne (by decide), up_ne (by decide), up_row, up_ne (by decide)]
          · rw [up_ne (by decide), up_ne (by decide), up_ne (by decide), up_row, hy, up_ne (by decide), up_ne (by decide)]
          · rw [up_ne (by decide), up_ne (by decide), up_row, up_ne (by decide), up_ne (by decide), up_ne (by decide)]
      have hhd : ∀ e, va_c fr Z e → M 97 e = (Z.2.2.1 e).headD 0 := fun e he => by
        have := (dt.1 e he).1
        rw [List.headD_eq_head?_getD, this]; rfl
      refine ⟨on_vp (by omega) (by omega), on_vp (by omega) (by omega), on_vp (by omega) (by omega), fun y => ⟨on_vp (by omega) (by omega), on_vp (by omega) (by omega), on_vp (by omega) (by omega), on_vp (by omega) (by omega), done _ ?_⟩, fun y => ⟨on_vp (by omega) (by omega), on_vp (by omega) (by omega), on_vp (by omega) (by omega), on_vp (by omega) (by omega), done _ ?_⟩⟩
      · rw [up_nk y, up_ne (by decide)]
        have hcl : c < Z.1 := by
          rcases ha with u | u | u
          · omega
          · exact u.2
          · exact absurd u.1 y
        unfold fs_c
        rw [if_pos hcl]
        refine hhd c ?_
        rcases ha with u | u | u
        · exact Or.inl u
        · exact Or.inr u
        · omega
      · rw [up_nk hbZ, up_ne (by decide)]
        unfold fs_c
        rw [if_neg (by have := Classical.not_not.mp y; omega), b2, on_n (by omega)]
        exact hhd b b1
/-- a string's pixels come -/
theorem cm_comes (hf : fr ≤ 16) (h : wk_ok fr Z) (hd : md_is M fr Z) (hc : va_c fr Z c) (htot : tot ≤ 64) (hP : px_m M P) (hPl : P.length ≤ tot) (h26 : M 84 26 = Int32.ofNat P.length) (hg : M 84 22 = 1)
    (hk : ∀ M', (∀ b, ¬ b = 84 → ¬ b = 99 → M' b = M b) → (∀ k, ¬ k = 22 → ¬ k = 26 → M' 84 k = M 84 k) → P.length + (Z.2.2.1 c).length ≤ tot → px_m M' (P ++ Z.2.2.1 c) → M' 84 26 = Int32.ofNat (P ++ Z.2.2.1 c).length → M' 84 22 = 1 → Q (.inl none) (M', J, rf_w r, sh_w N, n))
    (hn : ∀ M', (∀ b, ¬ b = 84 → ¬ b = 99 → M' b = M b) → (∀ k, ¬ k = 22 → ¬ k = 26 → M' 84 k = M 84 k) → ¬ P.length + (Z.2.2.1 c).length ≤ tot → M' 84 22 = 0 → Q (.inl none) (M', J, rf_w r, sh_w N, n)) :
    mc_WP (mc_en 99 [.ref 84, .int (Int32.ofNat c), .int (Int32.ofNat tot)] (M, J, rf_w r, sh_w N, n)) Q := by
  obtain ⟨⟨d1, d2, d3⟩, dt⟩ := id hd
  have hc64 := wk_lt h hf hc
  obtain ⟨l1, l2⟩ := wk_64 h hf hc
  have e98 : M 98 c = Int32.ofNat (Z.2.2.1 c).length := (dt.1 c hc).2.2
  generalize hl : Z.2.2.1 c = l at *
  refine bk_99_0 ?_
  rw [on_n (k := c) (by omega), e98, h26, on_ad]
  refine ⟨on_vp (by omega) (by omega), fun q => absurd (hg.symm.trans q) (by decide), fun _ => ⟨fun q => ?_, fun q => ?_⟩⟩
  · have hle := (on_lt (by omega) (by omega)).mp q
    have fin : Q (.inl none) (mc_up (mc_up M 84 22 0) 84 26 (mc_up M 84 22 0 84 26 + Int32.ofNat l.length), J, rf_w r, sh_w N, n) := hn _ (fun b z1 _ => by rw [up_ne z1, up_ne z1]) (fun k z1 z2 => by rw [up_nk z2, up_nk z1]) (by omega) (by rw [up_nk (by decide), up_at])
    exact bk_99_43 ⟨fun _ => fin, fun _ => ⟨fun _ => fin, fun z => absurd up_at z⟩⟩
  · have hle : P.length + l.length ≤ tot := Nat.le_of_not_lt fun z => q ((on_lt (by omega) (by omega)).mpr z)
    generalize hM1 : mc_up M 84 22 1 = M1
    have k1 : ∀ b, ¬ b = 84 → M1 b = M b := fun b z => by rw [← hM1, up_ne z]
    have n1 : ∀ k, ¬ k = 22 → M1 84 k = M 84 k := fun k z => by rw [← hM1, up_nk z]
    have g1 : M1 84 22 = 1 := by rw [← hM1, up_at]
    have run : ∀ k (x3 : Int32) (M3 : rl_M), k ≤ l.length → (1 ≤ k → ∃ e, va_c fr Z e ∧ x3 = Int32.ofNat e ∧ Z.2.2.1 e = l.take k) → (∀ (i : Nat) (p : Int32), k ≤ i → l[i]? = some p → M3 99 (P.length + i) = p) → px_m M3 P → (∀ b, ¬ b = 99 → M3 b = M1 b) →
        mc_WP (99, 43, [.ref 84, .int (Int32.ofNat c), .int (Int32.ofNat tot), .int x3, .int (Int32.ofNat l.length), .int (Int32.ofNat k - 1)], [], (M3, J, rf_w r, sh_w N, n), (0, 0)) Q := by
      intro k
      induction k with
      | zero =>
        intro x3 M3 _ _ hi hp hb
        refine bk_99_43 ⟨fun _ => ?_, fun q => absurd (show (Int32.ofNat 0 - 1 : Int32) < 0 by decide) q⟩
        have e26 : M3 84 26 = Int32.ofNat P.length := by rw [hb 84 (by decide), n1 26 (by decide)]; exact h26
        rw [e26, on_ad]
        refine hk _ (fun b z1 z2 => by rw [up_ne z1, hb b z2, k1 b z1]) (fun j z1 z2 => by rw [up_nk z2, hb 84 (by decide), n1 j z1]) hle (fun j p hj => ?_) (by rw [up_at, List.length_append]) (by rw [up_nk (by decide), hb 84 (by decide)]; exact g1)
        rw [up_ne (by decide)]
        by_cases z : j < P.length
        · rw [List.getElem?_append_left z] at hj; exact hp j p hj
        · rw [List.getElem?_append_right (by omega)] at hj
          have := hi (j - P.length) p (Nat.zero_le _) hj
          rw [show P.length + (j - P.length) = j by omega] at this
          exact this
      | succ k ih =>
        intro x3 M3 hkl he hi hp hb
        obtain ⟨e, e1, e2, e3⟩ := he (by omega)
        have he64 := wk_lt h hf e1
        obtain ⟨b1, b2⟩ := tb_back h dt e1 e3 hkl
        have e26 : M3 84 26 = Int32.ofNat P.length := by rw [hb 84 (by decide), n1 26 (by decide)]; exact h26
        have e22 : M3 84 22 = 1 := by rw [hb 84 (by decide)]; exact g1
        have r96 : M3 96 e = M 96 e := by rw [hb 96 (by decide), k1 96 (by decide)]
        have r95 : M3 95 e = M 95 e := by rw [hb 95 (by decide), k1 95 (by decide)]
        refine bk_99_43 ?_
        rw [on_a1, on_s1, e26, on_ad (a := P.length) (k := k), e2, on_n (k := e) (by omega), on_n (k := P.length + k) (by omega), r96, r95]
        refine ⟨fun z => absurd ((on_lt (m := 0) (by omega) (by omega)).mp z) (by omega), fun _ => ⟨fun z => absurd (e22.symm.trans z) (by decide), fun _ => ⟨on_vp (by omega) (by omega), on_vp (by omega) (by omega), on_vp (by omega) (by omega), ?_⟩⟩⟩
        refine ih _ _ (by omega) (fun h1 => ?_) (fun i p hki hli => ?_) (fun i p hip => ?_) (fun b z => by rw [up_ne z]; exact hb b z)
        · obtain ⟨e', v1, v2, v3⟩ := b2 h1
          exact ⟨e', v1, v2, v3⟩
        · by_cases z : i = k
          · subst z
            rw [b1] at hli
            cases hli
            exact up_at
          · rw [up_nk (by omega)]; exact hi i p (by omega) hli
        · have := (List.getElem?_eq_some_iff.mp hip).1
          rw [up_nk (by omega)]; exact hp i p hip
    exact run l.length _ M1 (Nat.le_refl _) (fun _ => ⟨c, hc, rfl, by rw [List.take_length]; exact hl⟩) (fun i p hi hp => absurd (List.getElem?_eq_some_iff.mp hp).1 (by omega)) (fun k p hkp => by rw [k1 99 (by decide)]; exact hP k p hkp) (fun _ _ => rfl)
def dq_K (M M' : rl_M) : Prop := (∀ b, ¬ b = 84 → (b < 95 ∨ 100 ≤ b) → M' b = M b) ∧ ∀ k, k < 18 → M' 84 k = M 84 k
theorem dq_K.tr {M2 : rl_M} (h : dq_K M M') (h2 : dq_K M' M2) : dq_K M M2 := ⟨fun b q1 q2 => (h2.1 b q1 q2).trans (h.1 b q1 q2), fun k q => (h2.2 k q).trans (h.2 k q)⟩
theorem dq_w2 (h : w2_K M M') : dq_K M M' := ⟨fun b q _ => h.1 b q, fun k q => h.2.1 k (by omega)⟩
theorem dq_gq (h : gq_K M M') : dq_K M M' := ⟨fun b q _ => h.1 b q, fun k q => h.2 k (by omega)⟩
theorem md_cg (h : md_is M fr Z) (e1 : ∀ k, 18 ≤ k → k ≤ 20 → M' 84 k = M 84 k) (e2 : ∀ b, 95 ≤ b → b ≤ 98 → M' b = M b) : md_is M' fr Z := by
  unfold md_is
  rw [e1 19 (by decide) (by decide), e1 18 (by decide) (by decide), e1 20 (by decide) (by decide), e2 95 (by decide) (by decide), e2 96 (by decide) (by decide), e2 97 (by decide) (by decide), e2 98 (by decide) (by decide)]
  exact h
theorem pm_cg2 (h : px_m M P) (e : M' 99 = M 99) : px_m M' P := fun k p hk => by rw [e]; exact h k p hk
/-- the end, when something was wrong -/
theorem m_end0 (h0 : M 84 22 = 0) (hB : rd_ok B) (hb : by_m M B) (hk : ∀ M', (∀ b, ¬ b = 84 → M' b = M b) → (∀ k, ¬ k = 21 → ¬ k = 22 → M' 84 k = M 84 k) → M' 84 22 = 0 → Q (.inl none) (M', J, rf_w r, sh_w N, n)) : mc_WP (100, 280, [.ref 84, .int x1, .int x2, .int x3, .int x4, .int x5, z6, z7, z8], [], (M, J, rf_w r, sh_w N, n), (0, 0)) Q := by
  refine bk_100_280 ⟨fun _ => bk_100_304 ⟨fun _ => bk_100_327 (bk_100_328 ⟨Or.inl rfl, mc_inl ?_⟩), fun q => absurd h0 q⟩, fun q => absurd h0 q⟩
  generalize hM1 : mc_up (mc_up M 84 21 (M 84 21)) 84 22 0 = M1
  have k1 : ∀ b, ¬ b = 84 → M1 b = M b := fun b z => by rw [← hM1, up_ne z, up_ne z]
  have n1 : ∀ k, ¬ k = 21 → ¬ k = 22 → M1 84 k = M 84 k := fun k z1 z2 => by rw [← hM1, up_nk z2, up_nk z1]
  refine cm_take (lo := 0) (hi := 0) (S := none) hB (by_mg hb (n1 10 (by decide) (by decide)) (k1 91 (by decide))) (by show M1 84 22 = 0; rw [← hM1, up_at]) (fun a h => nomatch h) (by decide) (by decide) fun M2 v k2 g2 _ _ _ _ => bk_100_337 ?_
  have g22 : M2 84 22 = 0 := g2
  have fin : mc_WP (100, 380, [.ref 84, .int x1, .int x2, .int x3, .int x4, .int x5, .int 0, z7, z8], [], (M2, J, rf_w r, sh_w N, n), (0, 0)) Q := bk_100_380 (hk M2 (fun b z => (k2.1 b z).trans (k1 b z)) (fun k z1 z2 => (k2.2 k z1 z2).trans (n1 k z1 z2)) g22)
  exact bk_100_341 ⟨fun _ => fin, fun _ => ⟨fun _ => fin, fun z => absurd g22 z⟩⟩
end
