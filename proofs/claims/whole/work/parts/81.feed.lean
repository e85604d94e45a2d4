/-! bytes that are put behind the others -/
def ap_M (I : rl_M) (a la ls L : Nat) (l : List Int32) : rl_M := fun b j => if b = a ∧ L ≤ j ∧ j < L + l.length then l.getD (j - L) 0 else if b = la ∧ j = ls then Int32.ofNat (L + l.length) else I b j
section
variable {I : rl_M} {J : Nat → Nat → Int64} {r N n : Nat} {Q : mc_Q} {v x1 x2 x3 y4 x4 : Int32} {x5 x6 x7 x8 : Value} {u : mc_U} {a b la ls L j k z f g o s : Nat} {l : List Int32} {w : Int64}
theorem ap_0 (h : I la ls = Int32.ofNat L) : ap_M I a la ls L [] = I := by
  funext b j
  unfold ap_M
  rw [if_neg (fun z => by have := z.2; simp at this; omega)]
  by_cases q : b = la ∧ j = ls
  · rw [if_pos q, q.1, q.2, h]; rfl
  · rw [if_neg q]
theorem ap_s (hn : ¬ la = a) : mc_up (mc_up (ap_M I a la ls L l) a (L + l.length) v) la ls (Int32.ofNat (L + l.length + 1)) = ap_M I a la ls L (l ++ [v]) := by
  funext b j
  have hl : (l ++ [v]).length = l.length + 1 := by simp
  unfold mc_up ap_M
  rw [hl]
  by_cases q : b = la ∧ j = ls
  · rw [if_pos q, if_neg (fun z => hn (q.1.symm.trans z.1)), if_pos q]; rfl
  · rw [if_neg q, if_neg q]
    by_cases q2 : b = a ∧ j = L + l.length
    · rw [if_pos q2, if_pos (by omega), q2.2, show L + l.length - L = l.length by omega]
      simp [List.getD]
    · rw [if_neg q2]
      by_cases q3 : b = a ∧ L ≤ j ∧ j < L + l.length
      · rw [if_pos q3, if_pos (by omega)]
        simp only [List.getD]
        rw [List.getElem?_append_left (by omega)]
      · rw [if_neg q3, if_neg (by omega), if_neg q]
theorem ap_len (hn : ¬ la = a) : ap_M I a la ls L l la ls = Int32.ofNat (L + l.length) := by
  unfold ap_M
  rw [if_neg (fun z => hn z.1), if_pos ⟨rfl, rfl⟩]
theorem ap_ne (h1 : ¬ b = a) (h2 : ¬ b = la) : ap_M I a la ls L l b = I b := by
  funext j
  unfold ap_M
  rw [if_neg (fun z => h1 z.1), if_neg (fun z => h2 z.1)]
theorem ap_k (h1 : ¬ b = a) (h2 : ¬ k = ls) : ap_M I a la ls L l b k = I b k := by
  unfold ap_M
  rw [if_neg (fun z => h1 z.1), if_neg (fun z => h2 z.2)]
theorem ap_in (hk : k < l.length) : ap_M I a la ls L l a (L + k) = l.getD k 0 := by
  unfold ap_M
  rw [if_pos (by omega), show L + k - L = k by omega]
theorem ap_old (hn : ¬ a = la) (hk : k < L) : ap_M I a la ls L l a k = I a k := by
  unfold ap_M
  rw [if_neg (by omega), if_neg (fun z => hn z.1)]
/-- both sides have put the same bytes -/
theorem rb_B.ap {I2 : rl_M} (h : rb_B (I 54 1) (I 55) (I 84 10) (I 91)) (hL : (I 84 10).toInt = L) (hl : L + l.length ≤ 800) (hb : ∀ x ∈ l, 0 ≤ x.toInt ∧ x.toInt ≤ 255) (e1 : I2 54 1 = Int32.ofNat (L + l.length)) (e2 : I2 84 10 = Int32.ofNat (L + l.length)) (e3 : ∀ k, I2 55 k = ap_M I 55 54 1 L l 55 k) (e4 : ∀ k, I2 91 k = ap_M I 91 84 10 L l 91 k) : rb_B (I2 54 1) (I2 55) (I2 84 10) (I2 91) := by
  obtain ⟨h1, h2, h3⟩ := h
  rw [e1, e2]
  refine ⟨rfl, by rw [on_t (by omega)]; omega, fun k hk => ?_⟩
  rw [on_t (by omega)] at hk
  rw [e3, e4]
  by_cases q : k < L
  · rw [ap_old (by decide) q, ap_old (by decide) q]
    exact h3 k (by omega)
  · rw [show k = L + (k - L) by omega, ap_in (by omega), ap_in (by omega)]
    refine ⟨rfl, hb _ ?_⟩
    rw [List.getD, List.getElem?_eq_getElem (by omega)]
    exact List.getElem_mem _
/-! feed -/
def fe_b (w : Int64) (k : Nat) : Int32 := ((w.toUInt64 >>> (((8 : Int32) * Int32.ofNat k).toInt64.toUInt64 &&& Int64.toUInt64 63)).toInt64).toInt32 &&& (255 : Int32)
theorem fe_m32 : ∀ i, i < 32 → (Int32.toBitVec 255).getLsbD i = decide (i < 8) := by decide
theorem fe_m64 : ∀ i, i < 64 → (Int64.ofNat 255).toBitVec.getLsbD i = decide (i < 8) := by decide
theorem fe_bv (w : BitVec 64) (s : Nat) (hs : s ≤ 56) : BitVec.signExtend 32 (w >>> s) &&& Int32.toBitVec 255 = BitVec.signExtend 32 (w.sshiftRight s &&& (Int64.ofNat 255).toBitVec) := by
  apply BitVec.eq_of_getLsbD_eq
  intro i hi
  simp only [BitVec.getLsbD_and, BitVec.getLsbD_signExtend, BitVec.getLsbD_ushiftRight, BitVec.getLsbD_sshiftRight, fe_m32 i hi, fe_m64 i (by omega), hi]
  by_cases h : i < 8
  · have : s + i < 64 := by omega
    have h64 : i < 64 := by omega
    simp [h, this, h64]
  · simp [h]
    omega
theorem fe_eq (w : Int64) : ∀ k, k < 8 → ((w >>> (((8 : Int32) * Int32.ofNat k).toInt64 &&& 63)) &&& (Int64.ofNat 255)).toInt32 = fe_b w k := by
  intro k hk
  unfold fe_b
  symm
  rw [← Int32.toBitVec_inj]
  simp only [Int32.toBitVec_and, Int64.toBitVec_toInt32, Int64.toBitVec_and]
  match k, hk with
  | 0, _ => exact fe_bv w.toBitVec 0 (by decide)
  | 1, _ => exact fe_bv w.toBitVec 8 (by decide)
  | 2, _ => exact fe_bv w.toBitVec 16 (by decide)
  | 3, _ => exact fe_bv w.toBitVec 24 (by decide)
  | 4, _ => exact fe_bv w.toBitVec 32 (by decide)
  | 5, _ => exact fe_bv w.toBitVec 40 (by decide)
  | 6, _ => exact fe_bv w.toBitVec 48 (by decide)
  | 7, _ => exact fe_bv w.toBitVec 56 (by decide)
def fe_l (w : Int64) (k : Nat) : List Int32 := (List.range k).map (fe_b w)
theorem fe_len : (fe_l w k).length = k := by unfold fe_l; simp
theorem fe_suc : fe_l w (k + 1) = fe_l w k ++ [fe_b w k] := by unfold fe_l; rw [List.range_succ, List.map_append]; rfl
theorem fe_by : ∀ x ∈ fe_l w k, 0 ≤ x.toInt ∧ x.toInt ≤ 255 := by
  intro x hx
  unfold fe_l at hx
  obtain ⟨i, -, rfl⟩ := List.mem_map.mp hx
  unfold fe_b
  exact i3_byt _
theorem fe_cl {m : Nat} (h8 : m ≤ 8) (hL : L + m ≤ 800) (hq : Q (.inl (some (.int (Int32.ofNat (L + m))))) (ap_M I 55 54 1 L (fe_l w m), J, rf_w r, sh_w N, n)) : ∀ d k : Nat, k + d = m → mc_WP (46, 30, [.ref 10, .long w, .null, .int (Int32.ofNat m), .int (Int32.ofNat k)], [], (ap_M I 55 54 1 L (fe_l w k), J, rf_w r, sh_w N, n), (0, 0)) Q
  | 0, k, h => by
    have hk : k = m := by omega
    subst hk
    refine bk_46_30 ⟨fun _ => ?_, fun q => absurd (by rw [Int32.le_iff_toInt_le]; omega) q⟩
    rw [ap_len (by decide), fe_len]
    exact hq
  | d + 1, k, h => by
    refine bk_46_30 ⟨fun q => absurd q (by rw [Int32.le_iff_toInt_le, on_t (by omega), on_t (by omega)]; omega), fun _ => ?_⟩
    rw [ap_len (by decide), fe_len]
    refine ⟨fun q => absurd q (by rw [Int32.le_iff_toInt_le, on_t (by omega), on_t (by omega)]; omega), fun _ => ⟨by rw [vp_iff, on_t (by omega)]; omega, ?_⟩⟩
    have e := ap_s (I := I) (a := 55) (la := 54) (ls := 1) (L := L) (l := fe_l w k) (v := fe_b w k) (by decide)
    rw [fe_len, ← fe_suc] at e
    rw [on_n (by omega), on_1, on_1]
    have := fe_cl h8 hL hq d (k + 1) (by omega)
    rw [← e] at this
    exact this
theorem fe_ml {m : Nat} (h8 : m ≤ 8) (hL : L + m ≤ 800) (hq : Q (.inl (some (.int (Int32.ofNat (L + m))))) (ap_M I 91 84 10 L (fe_l w m), J, rf_w r, sh_w N, n)) : ∀ d k : Nat, k + d = m → mc_WP (91, 32, [.ref 84, .long w, .null, .int (Int32.ofNat m), .int (Int32.ofNat k)], [], (ap_M I 91 84 10 L (fe_l w k), J, rf_w r, sh_w N, n), (0, 0)) Q
  | 0, k, h => by
    have hk : k = m := by omega
    subst hk
    refine bk_91_32 ⟨fun _ => ?_, fun q => absurd (by rw [Int32.le_iff_toInt_le]; omega) q⟩
    rw [ap_len (by decide), fe_len]
    exact hq
  | d + 1, k, h => by
    refine bk_91_32 ⟨fun q => absurd q (by rw [Int32.le_iff_toInt_le, on_t (by omega), on_t (by omega)]; omega), fun _ => ?_⟩
    rw [ap_len (by decide), fe_len, fe_eq w k (by omega)]
    refine ⟨by rw [vp_iff, on_t (by omega)]; omega, ?_⟩
    have e := ap_s (I := I) (a := 91) (la := 84) (ls := 10) (L := L) (l := fe_l w k) (v := fe_b w k) (by decide)
    rw [fe_len, ← fe_suc] at e
    rw [on_n (by omega), on_1, on_1]
    have := fe_ml h8 hL hq d (k + 1) (by omega)
    rw [← e] at this
    exact this
def fe_in (n x3 : Int32) : Prop := (1 ≤ x3.toInt ∧ x3.toInt ≤ 8) ∧ n.toInt + x3.toInt ≤ 800
theorem cc_feed (hB : rb_B (I 54 1) (I 55) (I 84 10) (I 91)) (h1 : fe_in (I 84 10) x3 → Q (.inl (some (.int (Int32.ofNat ((I 84 10).toNatClampNeg + x3.toNatClampNeg))))) (ap_M I 55 54 1 (I 84 10).toNatClampNeg (fe_l w x3.toNatClampNeg), J, rf_w r, sh_w N, n)) (h0 : ¬ fe_in (I 84 10) x3 → Q (.inl (some (.int (-1)))) (I, J, rf_w r, sh_w N, n)) : mc_WP (mc_en 46 [.ref 10, .long w, .int x3] (I, J, rf_w r, sh_w N, n)) Q := by
  obtain ⟨g1, g2, g3⟩ := hB
  have t1 := i3_tn (I 84 10)
  have t3 := i3_tn x3
  unfold fe_in at h1 h0
  refine bk_46_0 ⟨fun a => h0 ?_, fun a => ⟨fun b => h0 ?_, fun b => ?_⟩⟩
  · simp only [Int32.lt_iff_toInt_lt, Int32.le_iff_toInt_le, Int32.toInt_add, Int32.toInt_sub, Int32.toInt_mul, Int.bmod_def, i3_m1, i3_0, i3_1, i3_2, i3_3, i3_4, i3_5, i3_6, i3_7, i3_8, i3_9, i3_10, i3_15, i3_16, i3_19, i3_20, i3_24, i3_31, i3_33, i3_44, i3_45, i3_48, i3_49, i3_59, i3_63, i3_64, i3_80, i3_100, i3_192, i3_200000, i3_254, i3_255, i3_256, i3_800, i3_16777215, i3_16777216] at a; omega
  · simp only [Int32.lt_iff_toInt_lt, Int32.le_iff_toInt_le, Int32.toInt_add, Int32.toInt_sub, Int32.toInt_mul, Int.bmod_def, i3_m1, i3_0, i3_1, i3_2, i3_3, i3_4, i3_5, i3_6, i3_7, i3_8, i3_9, i3_10, i3_15, i3_16, i3_19, i3_20, i3_24, i3_31, i3_33, i3_44, i3_45, i3_48, i3_49, i3_59, i3_63, i3_64, i3_80, i3_100, i3_192, i3_200000, i3_254, i3_255, i3_256, i3_800, i3_16777215, i3_16777216] at a b; omega
  · rw [g1]
    refine ⟨fun d => ?_, fun d => h0 ?_⟩
    · have hin : (1 ≤ x3.toInt ∧ x3.toInt ≤ 8) ∧ (I 84 10).toInt + x3.toInt ≤ 800 := by simp only [Int32.lt_iff_toInt_lt, Int32.le_iff_toInt_le, Int32.toInt_add, Int32.toInt_sub, Int32.toInt_mul, Int.bmod_def, i3_m1, i3_0, i3_1, i3_2, i3_3, i3_4, i3_5, i3_6, i3_7, i3_8, i3_9, i3_10, i3_15, i3_16, i3_19, i3_20, i3_24, i3_31, i3_33, i3_44, i3_45, i3_48, i3_49, i3_59, i3_63, i3_64, i3_80, i3_100, i3_192, i3_200000, i3_254, i3_255, i3_256, i3_800, i3_16777215, i3_16777216] at a b d; omega
      have e3 := on_of (v := x3) (by omega)
      have := fe_cl (I := I) (J := J) (r := r) (N := N) (n := n) (Q := Q) (w := w) (L := (I 84 10).toNatClampNeg) (m := x3.toNatClampNeg) (by omega) (by omega) (h1 hin) x3.toNatClampNeg 0 (by omega)
      rw [show fe_l w 0 = [] from rfl, ap_0 (by rw [g1]; exact on_of g2.1), ← e3] at this
      exact this
    · simp only [Int32.lt_iff_toInt_lt, Int32.le_iff_toInt_le, Int32.toInt_add, Int32.toInt_sub, Int32.toInt_mul, Int.bmod_def, i3_m1, i3_0, i3_1, i3_2, i3_3, i3_4, i3_5, i3_6, i3_7, i3_8, i3_9, i3_10, i3_15, i3_16, i3_19, i3_20, i3_24, i3_31, i3_33, i3_44, i3_45, i3_48, i3_49, i3_59, i3_63, i3_64, i3_80, i3_100, i3_192, i3_200000, i3_254, i3_255, i3_256, i3_800, i3_16777215, i3_16777216] at a b d; omega
theorem cm_feed (g2 : 0 ≤ (I 84 10).toInt ∧ (I 84 10).toInt ≤ 800) (h1 : fe_in (I 84 10) x3 → Q (.inl (some (.int (Int32.ofNat ((I 84 10).toNatClampNeg + x3.toNatClampNeg))))) (ap_M (mc_up I 84 0 0) 91 84 10 (I 84 10).toNatClampNeg (fe_l w x3.toNatClampNeg), J, rf_w r, sh_w N, n)) (h0 : ¬ fe_in (I 84 10) x3 → Q (.inl (some (.int (-1)))) (mc_up I 84 0 0, J, rf_w r, sh_w N, n)) : mc_WP (mc_en 91 [.ref 84, .long w, .int x3] (I, J, rf_w r, sh_w N, n)) Q := by
  have t1 := i3_tn (I 84 10)
  have t3 := i3_tn x3
  unfold fe_in at h1 h0
  refine bk_91_0 ⟨fun a => h0 ?_, fun a => ⟨fun b => ⟨fun d => ?_, fun d => h0 ?_⟩, fun b => h0 ?_⟩⟩
  · simp only [Int32.lt_iff_toInt_lt, Int32.le_iff_toInt_le, Int32.toInt_add, Int32.toInt_sub, Int32.toInt_mul, Int.bmod_def, i3_m1, i3_0, i3_1, i3_2, i3_3, i3_4, i3_5, i3_6, i3_7, i3_8, i3_9, i3_10, i3_15, i3_16, i3_19, i3_20, i3_24, i3_31, i3_33, i3_44, i3_45, i3_48, i3_49, i3_59, i3_63, i3_64, i3_80, i3_100, i3_192, i3_200000, i3_254, i3_255, i3_256, i3_800, i3_16777215, i3_16777216] at a; omega
  · have hin : (1 ≤ x3.toInt ∧ x3.toInt ≤ 8) ∧ (I 84 10).toInt + x3.toInt ≤ 800 := by simp only [Int32.lt_iff_toInt_lt, Int32.le_iff_toInt_le, Int32.toInt_add, Int32.toInt_sub, Int32.toInt_mul, Int.bmod_def, i3_m1, i3_0, i3_1, i3_2, i3_3, i3_4, i3_5, i3_6, i3_7, i3_8, i3_9, i3_10, i3_15, i3_16, i3_19, i3_20, i3_24, i3_31, i3_33, i3_44, i3_45, i3_48, i3_49, i3_59, i3_63, i3_64, i3_80, i3_100, i3_192, i3_200000, i3_254, i3_255, i3_256, i3_800, i3_16777215, i3_16777216] at a b d; omega
    have e3 := on_of (v := x3) (by omega)
    have := fe_ml (I := mc_up I 84 0 0) (J := J) (r := r) (N := N) (n := n) (Q := Q) (w := w) (L := (I 84 10).toNatClampNeg) (m := x3.toNatClampNeg) (by omega) (by omega) (h1 hin) x3.toNatClampNeg 0 (by omega)
    rw [show fe_l w 0 = [] from rfl, ap_0 (by rw [up_nk (by decide)]; exact on_of g2.1), ← e3] at this
    exact this
  · simp only [Int32.lt_iff_toInt_lt, Int32.le_iff_toInt_le, Int32.toInt_add, Int32.toInt_sub, Int32.toInt_mul, Int.bmod_def, i3_m1, i3_0, i3_1, i3_2, i3_3, i3_4, i3_5, i3_6, i3_7, i3_8, i3_9, i3_10, i3_15, i3_16, i3_19, i3_20, i3_24, i3_31, i3_33, i3_44, i3_45, i3_48, i3_49, i3_59, i3_63, i3_64, i3_80, i3_100, i3_192, i3_200000, i3_254, i3_255, i3_256, i3_800, i3_16777215, i3_16777216] at a b d; omega
  · simp only [Int32.lt_iff_toInt_lt, Int32.le_iff_toInt_le, Int32.toInt_add, Int32.toInt_sub, Int32.toInt_mul, Int.bmod_def, i3_m1, i3_0, i3_1, i3_2, i3_3, i3_4, i3_5, i3_6, i3_7, i3_8, i3_9, i3_10, i3_15, i3_16, i3_19, i3_20, i3_24, i3_31, i3_33, i3_44, i3_45, i3_48, i3_49, i3_59, i3_63, i3_64, i3_80, i3_100, i3_192, i3_200000, i3_254, i3_255, i3_256, i3_800, i3_16777215, i3_16777216] at a b; omega
theorem lc_feed (hI : rl_I r I) (hN : N ≤ 3074) (hx : 0 ≤ x4.toInt ∧ x4.toInt + 6 ≤ N) (hu : u.1 + 3 ≤ 601024 ∧ u.2 + 18 ≤ 7293000) (hn : lw_nx N x4 u Q) : mc_WP (42, 803, [.ref 1, .ref 10, .ref 84, .ref 105, .int x4, x5, x6], [], (I, J, rf_w r, sh_w N, n), u) Q := by
  have hI' := hI
  obtain ⟨hr, hR, hB, hP, hC, hK⟩ := hI
  have hb := is_Rb hr
  have t1 := i3_tn (I 84 10)
  have g2 := hB.2.1
  refine bk_42_803 ⟨lw_i hN hx (by decide), lw_i hN hx (by decide), lw_i hN hx (by decide), by omega, by omega, mc_inl ?_⟩
  refine cc_feed hB (fun c => ?_) (fun c => ?_)
  · have t3 := i3_tn (I 1 (x4 + 3).toNatClampNeg)
    have hfe := c
    unfold fe_in at hfe
    refine bk_42_835 ⟨lw_i hN hx (by decide), lw_i hN hx (by decide), lw_i hN hx (by decide), by omega, by omega, mc_inl ?_⟩
    rw [ap_ne (show ¬ 1 = 55 by decide) (show ¬ 1 = 54 by decide)]
    refine cm_feed (by rw [ap_ne (by decide) (by decide)]; exact g2) (fun _ => ?_) (fun q => absurd (by rw [ap_ne (by decide) (by decide)]; exact c) q)
    rw [ap_ne (show ¬ 84 = 55 by decide) (show ¬ 84 = 54 by decide)]
    refine bk_42_867 ⟨fun _ => hn r _ _ _ _ _ _ ⟨hr, ?_, ?_, ?_, ?_, ?_⟩ (by omega) (by omega), fun q => absurd rfl q⟩
    · have ev : ∀ (M : rl_M) (l : List Int32) (L : Nat), rl_v r (ap_M M 91 84 10 L l) = rl_v r M := fun M l L => by
        funext o
        unfold rl_v
        split
        · exact ap_ne (by omega) (by omega)
        · rfl
      have ev2 : ∀ (M : rl_M) (l : List Int32) (L : Nat), rl_v r (ap_M M 55 54 1 L l) = rl_v r M := fun M l L => by
        funext o
        unfold rl_v
        split
        · exact ap_ne (by omega) (by omega)
        · rfl
      rw [ev, up_v (by omega), ev2, ap_k (show ¬ 84 = 91 by decide) (show ¬ 1 = 10 by decide), up_nk (by decide), ap_ne (show ¬ 84 = 55 by decide) (show ¬ 84 = 54 by decide), ap_ne (show ¬ 85 = 91 by decide) (show ¬ 85 = 84 by decide), ap_ne (show ¬ 86 = 91 by decide) (show ¬ 86 = 84 by decide), ap_ne (show ¬ 87 = 91 by decide) (show ¬ 87 = 84 by decide), up_ne (show ¬ 85 = 84 by decide), up_ne (show ¬ 86 = 84 by decide), up_ne (show ¬ 87 = 84 by decide), ap_ne (show ¬ 85 = 55 by decide) (show ¬ 85 = 54 by decide), ap_ne (show ¬ 86 = 55 by decide) (show ¬ 86 = 54 by decide), ap_ne (show ¬ 87 = 55 by decide) (show ¬ 87 = 54 by decide)]
      exact hR
    · refine rb_B.ap (L := (I 84 10).toNatClampNeg) (l := fe_l (((I 1 (x4 + 1).toNatClampNeg).toInt64 <<< ((32 : Int32).toInt64 &&& 63)) ||| ((I 1 (x4 + 2).toNatClampNeg).toInt64 &&& (Int64.ofNat 4294967295))) (I 1 (x4 + 3).toNatClampNeg).toNatClampNeg) hB (by omega) (by rw [fe_len]; omega) fe_by ?_ ?_ (fun k => ?_) (fun k => ?_)
      · rw [ap_ne (by decide) (by decide), up_ne (by decide), ap_len (by decide)]
      · rw [ap_len (by decide)]
      · rw [ap_ne (by decide) (by decide), up_ne (by decide)]
      · unfold ap_M
        split
        · rfl
        · rw [if_neg (by omega), if_neg (by omega)]
          show mc_up _ 84 0 0 91 k = _
          rw [up_ne (by decide)]
          rw [if_neg (by omega), if_neg (by omega)]
    · rw [ap_ne (show ¬ 75 = 91 by decide) (show ¬ 75 = 84 by decide), up_ne (show ¬ 75 = 84 by decide), ap_ne (show ¬ 75 = 55 by decide) (show ¬ 75 = 54 by decide), ap_ne (show ¬ 92 = 91 by decide) (show ¬ 92 = 84 by decide), up_ne (show ¬ 92 = 84 by decide), ap_ne (show ¬ 92 = 55 by decide) (show ¬ 92 = 54 by decide)]; exact hP
    · rw [ap_ne (show ¬ 12 = 91 by decide) (show ¬ 12 = 84 by decide), up_ne (show ¬ 12 = 84 by decide), ap_ne (show ¬ 12 = 55 by decide) (show ¬ 12 = 54 by decide), ap_ne (show ¬ 93 = 91 by decide) (show ¬ 93 = 84 by decide), up_ne (show ¬ 93 = 84 by decide), ap_ne (show ¬ 93 = 55 by decide) (show ¬ 93 = 54 by decide)]; exact hC
    · refine ⟨fun p hp => ?_, fun a h1 h2 => by rw [ap_ne (by omega) (by omega), up_ne (by omega), ap_ne (by omega) (by omega)]; exact hK.2.1 a h1 h2, fun k h1 => by rw [ap_ne (by decide) (by decide), up_ne (by decide), ap_ne (by decide) (by decide)]; exact hK.2.2 k h1⟩
      have hpn : p < 54 := by simp only [is_P, List.mem_cons, List.not_mem_nil, or_false] at hp; omega
      rw [ap_ne (by omega) (by omega), up_ne (by omega), ap_ne (by omega) (by omega)]
      exact hK.1 p hp
  · refine bk_42_835 ⟨lw_i hN hx (by decide), lw_i hN hx (by decide), lw_i hN hx (by decide), by omega, by omega, mc_inl ?_⟩
    refine cm_feed g2 (fun q => absurd q c) (fun _ => ?_)
    exact bk_42_867 ⟨fun _ => hn r _ _ _ _ _ _ hI'.thr (by omega) (by omega), fun q => absurd rfl q⟩
end
