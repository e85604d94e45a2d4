/-! read: the class's pixels of a frame -/
section
variable {I M M' : rl_M} {J : Nat → Nat → Int64} {r N n : Nat} {Q : mc_Q} {B : rd_B} {a b c e k m L v s fr ls z tot a1 d t : Nat} {D A : List Nat} {st : rd_S} {Z : lz_Z} {x : Int32} {P : List Int32}
def px_w (M : rl_M) (a1 : Nat) (A : List Nat) (P : List Int32) : Prop := ∀ (k : Nat) (p : Int32), P[k]? = some p → ∃ q, A[k]? = some q ∧ M a1 q = p
def ts_K (a1 : Nat) (A : List Nat) (M M' : rl_M) : Prop := (∀ b, (b < 68 ∨ 73 ≤ b) → ¬ b = a1 → ¬ b = 74 → M' b = M b) ∧ ∀ q, ¬ q ∈ A → M' a1 q = M a1 q
theorem ts_K.tr {M2 : rl_M} (h : ts_K a1 A M M') (h2 : ts_K a1 A M' M2) : ts_K a1 A M M2 := ⟨fun b q1 q2 q3 => (h2.1 b q1 q2 q3).trans (h.1 b q1 q2 q3), fun q z => (h2.2 q z).trans (h.2 q z)⟩
theorem cc_tstr (hf : fr ≤ 16) (h : wk_ok fr Z) (hat : wk_at fr Z) (hd : cd_is M 68 fr Z) (ha : al_c fr Z c) (hc : c < 64) (ho : ol3_is M A) (hA : A.length = tot) (htot : tot ≤ 64) (hnd : A.Nodup) (h64 : ∀ q ∈ A, q < 64) (hsh : sh_w N a1 = (2, 64)) (ha1 : 10 ≤ a1 ∧ a1 < 54) (hP : px_w M a1 A P) (hPl : P.length ≤ tot)
    (hk : ∀ M', ts_K a1 A M M' → cd_is M' 68 fr (lz_bf (lz_nw Z (fs_c Z c)) c) → P.length + ((lz_nw Z (fs_c Z c)).2.2.1 c).length ≤ tot → px_w M' a1 A (P ++ (lz_nw Z (fs_c Z c)).2.2.1 c) → M' 74 = M 74 → Q (.inl (some (.int (Int32.ofNat ((lz_nw Z (fs_c Z c)).2.2.1 c).length)))) (M', J, rf_w r, sh_w N, n))
    (hn : ∀ M', ts_K a1 A M M' → cd_is M' 68 fr (lz_bf (lz_nw Z (fs_c Z c)) c) → ¬ P.length + ((lz_nw Z (fs_c Z c)).2.2.1 c).length ≤ tot → M' 74 1 = M 74 1 → M' 74 2 = 0 → Q (.inl (some (.int 0))) (M', J, rf_w r, sh_w N, n)) :
    mc_WP (mc_en 167 [.ref 65, .ref a1, .int (Int32.ofNat c), .int (Int32.ofNat P.length), .int (Int32.ofNat tot)] (M, J, rf_w r, sh_w N, n)) Q := by
  refine bk_167_0 hsh (mc_inl (cc_first hf h hat hd ha ?_))
  refine bk_167_12 hsh (by decide) (mc_inl (cc_mk hf h hat hd fun M1 k1 d1 => ?_))
  have hok := wk_nw (x := fs_c Z c) hf h hat
  have hva := al_va (x := fs_c Z c) hf h ha
  generalize hZ : lz_nw Z (fs_c Z c) = Z' at *
  obtain ⟨l1, l2⟩ := wk_64 hok hf hva
  have e72 : M1 72 c = Int32.ofNat (Z'.2.2.1 c).length := (d1.2.1 c hva).2.2
  generalize hl : Z'.2.2.1 c = l at *
  refine bk_167_15 hsh ?_
  rw [on_n (k := c) (by omega), e72, on_ad]
  generalize hM2 : mc_up M1 68 7 (Int32.ofNat c) = M2
  have k2 : ∀ b, ¬ b = 68 → M2 b = M1 b := fun b q => by rw [← hM2, up_ne q]
  have d2 : cd_is M2 68 fr (lz_bf Z' c) := by
    refine ⟨⟨?_, ?_, ?_, ?_⟩, ?_⟩
    · rw [← hM2, up_nk (by decide)]; exact d1.1.1
    · rw [← hM2, up_nk (by decide)]; exact d1.1.2.1
    · rw [← hM2, up_nk (by decide)]; exact d1.1.2.2.1
    · rw [← hM2, up_at]; rfl
    · rw [k2 _ (by decide), k2 _ (by decide), k2 _ (by decide), k2 _ (by decide)]; exact tb_bf d1.2
  have K2 : ts_K a1 A M M2 := ⟨fun b q1 q2 q3 => by rw [k2 b (by omega), k1 b (by omega)], fun q _ => by rw [k2 a1 (by omega), k1 a1 (by omega)]⟩
  have e74 : M2 74 = M 74 := by rw [k2 74 (by decide), k1 74 (by omega)]
  refine ⟨on_vp (by omega) (by omega), fun q => ?_, fun q => ?_⟩
  · have hle := (on_le (by omega) (by omega)).mp q
    have run : ∀ k (x6 : Int32) (M3 : rl_M), k ≤ l.length → (1 ≤ k → ∃ e, va_c fr Z' e ∧ x6 = Int32.ofNat e ∧ Z'.2.2.1 e = l.take k) → (∀ i p, k ≤ i → l[i]? = some p → ∃ q, A[P.length + i]? = some q ∧ M3 a1 q = p) → px_w M3 a1 A P → (∀ b, ¬ b = a1 → M3 b = M2 b) → (∀ q, ¬ q ∈ A → M3 a1 q = M2 a1 q) →
        mc_WP (167, 63, [.ref 65, .ref a1, .int (Int32.ofNat c), .int (Int32.ofNat P.length), .int (Int32.ofNat tot), .int (Int32.ofNat l.length), .int x6, .int (Int32.ofNat (P.length + k) - 1)], [], (M3, J, rf_w r, sh_w N, n), (0, 0)) Q := by
      intro k
      induction k with
      | zero =>
        intro x6 M3 _ _ hi hp hb hq
        have lt : Int32.ofNat (P.length + 0) - 1 < Int32.ofNat P.length := by
          rw [Nat.add_zero]
          cases hPL : P.length with
          | zero => decide
          | succ j => rw [on_s1, on_lt (by omega) (by omega)]; omega
        refine bk_167_63 hsh ha1.1 ⟨fun _ => hk M3 ⟨fun b q1 q2 q3 => (hb b q2).trans (K2.1 b q1 q2 q3), fun q z => (hq q z).trans (K2.2 q z)⟩ (cd_cg d2 (hb _ (by omega)) (hb _ (by omega)) (hb _ (by omega)) (hb _ (by omega)) (hb _ (by omega))) hle (fun k p hkp => ?_) ((hb 74 (by omega)).trans e74), fun q => absurd lt q⟩
        by_cases z : k < P.length
        · rw [List.getElem?_append_left z] at hkp; exact hp k p hkp
        · rw [List.getElem?_append_right (by omega)] at hkp
          have := hi (k - P.length) p (Nat.zero_le _) hkp
          rw [show P.length + (k - P.length) = k by omega] at this
          exact this
      | succ k ih =>
        intro x6 M3 hkl he hi hp hb hq
        obtain ⟨e, e1, e2, e3⟩ := he (by omega)
        have he64 := wk_lt hok hf e1
        obtain ⟨b1, b2⟩ := tb_back hok d1.2 e1 e3 hkl
        have hAk : P.length + k < A.length := by omega
        have hAq := List.getElem?_eq_getElem hAk
        generalize A[P.length + k] = q at hAq
        have hqA : q ∈ A := List.mem_of_getElem? hAq
        have hq64 := h64 q hqA
        have r73 : M3 73 (P.length + k) = Int32.ofNat q := by
          rw [hb 73 (by omega), k2 73 (by decide), k1 73 (by omega)]
          exact ho _ _ hAq
        have r71 : M3 71 e = M1 (68 + 3) e := by rw [hb 71 (by omega), k2 71 (by decide)]
        have r69 : M3 69 e = M1 (68 + 1) e := by rw [hb 69 (by omega), k2 69 (by decide)]
        have on1 : Int32.ofNat (P.length + (k + 1)) - 1 + (-1) = Int32.ofNat (P.length + k) - 1 := on_a1
        have on0 : Int32.ofNat (P.length + (k + 1)) - 1 = Int32.ofNat (P.length + k) := on_s1
        refine bk_167_63 hsh ha1.1 ?_
        rw [on1, on0, e2, on_n (by omega), on_n (by omega), r73, on_n (by omega), r71, up_ne (show ¬ 69 = a1 by omega), r69]
        refine ⟨fun z => absurd ((on_lt (by omega) (by omega)).mp z) (by omega), fun _ => ⟨on_vp (by omega) (by omega), on_vp (by omega) (by omega), on_vp (by omega) (by omega), on_vp (by omega) (by omega), ?_⟩⟩
        have inj : ∀ i q', A[i]? = some q' → ¬ i = P.length + k → ¬ q' = q := fun i q' hi' hne heq => by
          subst heq
          have h1 := (List.getElem?_eq_some_iff.mp hi')
          have h2 := (List.getElem?_eq_some_iff.mp hAq)
          obtain ⟨g1, g2⟩ := h1
          obtain ⟨g3, g4⟩ := h2
          exact hne ((List.getElem_inj hnd).mp (g2.trans g4.symm))
        refine ih _ _ (by omega) (fun h1 => ?_) (fun i p hki hli => ?_) (fun i p hip => ?_) (fun b z => by rw [up_ne z]; exact hb b z) (fun q' z => by rw [up_nk (fun y => z (by rw [y]; exact hqA))]; exact hq q' z)
        · obtain ⟨e', v1, v2, v3⟩ := b2 h1
          exact ⟨e', v1, v2, v3⟩
        · by_cases z : i = k
          · subst z
            rw [b1] at hli
            cases hli
            exact ⟨q, hAq, up_at⟩
          · obtain ⟨q', g1, g2⟩ := hi i p (by omega) hli
            exact ⟨q', g1, by rw [up_nk (inj _ _ g1 (by omega))]; exact g2⟩
        · obtain ⟨q', g1, g2⟩ := hp i p hip
          have := (List.getElem?_eq_some_iff.mp hip).1
          exact ⟨q', g1, by rw [up_nk (inj _ _ g1 (by omega))]; exact g2⟩
    exact run l.length _ M2 (Nat.le_refl _) (fun _ => ⟨c, hva, rfl, by rw [List.take_length]; exact hl⟩) (fun i p hi hp => absurd (List.getElem?_eq_some_iff.mp hp).1 (by omega)) (fun k p hkp => by rw [k2 a1 (by omega), k1 a1 (by omega)]; exact hP k p hkp) (fun _ _ => rfl) (fun _ _ => rfl)
  · have hle : ¬ P.length + l.length ≤ tot := fun z => q ((on_le (by omega) (by omega)).mpr z)
    refine hn _ ⟨fun b q1 q2 q3 => by rw [up_ne q3]; exact K2.1 b q1 q2 q3, fun q z => by rw [up_ne (by omega)]; exact K2.2 q z⟩ (cd_cg d2 (up_ne (by decide)) (up_ne (by decide)) (up_ne (by decide)) (up_ne (by decide)) (up_ne (by decide))) hle (by rw [up_nk (by decide), e74]) up_at
def tq_K (a1 : Nat) (A : List Nat) (M M' : rl_M) : Prop := (∀ b, (b < 65 ∨ b = 66 ∨ b = 67 ∨ b = 73 ∨ 75 ≤ b) → ¬ b = a1 → M' b = M b) ∧ (∀ q, ¬ q ∈ A → M' a1 q = M a1 q) ∧ (∀ k, ¬ k = 4 → M' 65 k = M 65 k) ∧ M' 74 1 = M 74 1
theorem tq_K.tr {M2 : rl_M} (h : tq_K a1 A M M') (h2 : tq_K a1 A M' M2) : tq_K a1 A M M2 := ⟨fun b q1 q2 => (h2.1 b q1 q2).trans (h.1 b q1 q2), fun q z => (h2.2.1 q z).trans (h.2.1 q z), fun k z => (h2.2.2.1 k z).trans (h.2.2.1 k z), h2.2.2.2.trans h.2.2.2⟩
theorem tq_tc (h : tc_K M M') (ha : a1 < 54) : tq_K a1 A M M' := ⟨fun b q1 _ => h.1 b (by omega) (by omega), fun q _ => by rw [h.1 a1 (by omega) (by omega)], h.2.1, h.2.2⟩
/-- the codes behind the first one -/
theorem cc_tloop (hB : rd_ok B) (hf : 4 ≤ fr ∧ fr ≤ 16) (ho : ol3_is M A) (hA : A.length = tot) (htot : tot ≤ 64) (hnd : A.Nodup) (h64 : ∀ q ∈ A, q < 64) (hF : is_F a) (hh : hd_is M D) (hD : ∀ y ∈ D, y < 256) (hl : D.length ≤ 800) :
    ∀ t b st Z P turn (M1 : rl_M) (x5 : Value), mu_f B st < t → 3 * turn + 3 ≤ b → wk_ok fr Z → wk_at fr Z → cd_is M1 68 fr Z → tq_K (a + 1) A M M1 → M1 65 4 = Int32.ofNat b → bs_D B D ls z b st → px_w M1 (a + 1) A P → P.length ≤ tot → M1 74 2 = 1 →
    (∀ M' c P' b', tq_K (a + 1) A M M' → dr_f B fr tot t st Z P = some (c, P') → px_w M' (a + 1) A P' → P'.length = tot → M' 65 4 = Int32.ofNat b' → b' ≤ 6400 → at_D B D ls z ((b' + 7) / 8) c → 1 ≤ b' → M' 74 2 = 1 → Q (.inl (some (.int 1))) (M', J, rf_w r, sh_w N, n)) →
    (∀ M', tq_K (a + 1) A M M' → dr_f B fr tot t st Z P = none → (M' 74 2 = 0 ∨ M' 74 2 = 1) → Q (.inl (some (.int 0))) (M', J, rf_w r, sh_w N, n)) →
    mc_WP (165, 14, [.ref 65, .ref a, .int (Int32.ofNat tot), .int (Int32.ofNat P.length), .int (Int32.ofNat turn), x5], [], (M1, J, rf_w r, sh_w N, n), (0, 0)) Q := by
  have ha := F_lt hF
  have hsh : sh_w N (a + 1) = (2, 64) := (wd_F (r := r) (N := N) hF).2.2.2.1
  -- with something wrong the loop ends
  have dead : ∀ (M1 : rl_M) x3 turn (x5 : Value), turn < 6401 → M1 74 2 = 0 → (Q (.inl (some (.int 0))) (M1, J, rf_w r, sh_w N, n)) → mc_WP (165, 14, [.ref 65, .ref a, .int (Int32.ofNat tot), .int x3, .int (Int32.ofNat turn), x5], [], (M1, J, rf_w r, sh_w N, n), (0, 0)) Q := fun M1 x3 turn x5 _ h0 hq => bk_165_14 hF ⟨fun _ => hq, fun _ => ⟨fun _ => hq, fun q => absurd h0 q⟩⟩
  intro t
  induction t with
  | zero => intro b st Z P turn M1 x5 hm; omega
  | succ t ih =>
    intro b st Z P turn M1 x5 hm htb hok hat d1 k1 e1 s1 p1 hPl c1 hk hn
    have hb4 : b ≤ 8 * D.length := s1.2.2.2
    have w6 := gw_6 (fr := fr) (Z := Z)
    have w3 := gw_3 hf.1 hf.2 hok
    have hh1 : hd_is M1 D := by unfold hd_is; rw [k1.1 66 (by omega) (by omega), k1.1 67 (by omega) (by omega)]; exact hh
    have o1 : ol3_is M1 A := fun k q hq => by rw [k1.1 73 (by omega) (by omega)]; exact ho k q hq
    have z1 := hok.1
    refine bk_165_14 hF ⟨fun q => absurd ((on_le (k := 6400) (by omega) (by omega)).mp q) (by omega), fun _ => ⟨fun q => absurd (c1.symm.trans q) (by decide), fun _ => mc_inl ?_⟩⟩
    refine cc_tcode hf.2 hok d1 hB hh1 hD hl e1 s1 (fun M2 b' k2 hnone c2 _ _ => ?_) (fun M2 code st' k2 hsome e2 s2 c2 => ?_)
    · -- no more bits
      have d2 : cd_is M2 68 fr Z := cd_cg d1 (k2.1 _ (by decide) (by decide)) (k2.1 _ (by decide) (by decide)) (k2.1 _ (by decide) (by decide)) (k2.1 _ (by decide) (by decide)) (k2.1 _ (by decide) (by decide))
      have k12 := k1.tr (tq_tc (A := A) k2 (by omega))
      have o2 : ol3_is M2 A := fun k q hq => by rw [k2.1 73 (by decide) (by decide)]; exact o1 k q hq
      have p2 : px_w M2 (a + 1) A P := fun k p hkp => by rw [k2.1 (a + 1) (by omega) (by omega)]; exact p1 k p hkp
      have al0 : al_c fr Z 0 := Or.inl (by omega)
      refine bk_165_36 hF ⟨fun _ => ⟨fun _ => mc_inl ?_, fun q => absurd (Classical.not_not.mp q) ?_⟩, fun q => absurd (Classical.not_not.mp q) ?_⟩
      · refine cc_allows (c := 0) hf.2 hok d2 (by decide) (fun _ => bk_165_92 hF ⟨fun q => absurd q (by decide), fun _ => mc_inl ?_⟩) (fun q => absurd al0 q)
        have fin : ∀ M3, ts_K (a + 1) A M2 M3 → M3 74 2 = 0 → M3 74 1 = M2 74 1 → ∀ v : Int32, mc_WP (165, 108, [.ref 65, .ref a, .int (Int32.ofNat tot), .int (Int32.ofNat P.length), .int (Int32.ofNat turn), .int 0], [.int v, .int (Int32.ofNat P.length)], (M3, J, rf_w r, sh_w N, n), (0, 0)) Q := fun M3 k3 c3 q3 v => by
          refine bk_165_108 hF ?_
          rw [on_1]
          refine dead M3 _ (turn + 1) _ (by omega) c3 (hn M3 (k12.tr ⟨fun b q1 q2 => k3.1 b (by omega) q2 (by omega), k3.2, fun k _ => by rw [k3.1 65 (by omega) (by omega) (by omega)], q3⟩) (dr_n hnone) (Or.inl c3))
        exact cc_tstr (c := 0) hf.2 hok hat d2 al0 (by decide) o2 hA htot hnd h64 hsh (by omega) p2 hPl (fun M3 k3 _ _ _ q3 => fin M3 k3 (by rw [q3]; exact c2) (by rw [q3]) _) (fun M3 k3 _ _ q3 c3 => fin M3 k3 c3 q3 _)
      · rw [d2.1.1, show (0 : Int32) = Int32.ofNat 0 from rfl, on_eq (by omega) (by omega)]; omega
      · rw [d2.1.2.1, show (0 : Int32) = Int32.ofNat 0 from rfl, on_eq (by omega) (by omega)]; omega
    · obtain ⟨mu1, mu2⟩ := tc_mu (by omega) (by omega) hsome
      have c64 : code < 64 := Nat.lt_of_lt_of_le mu2 (Nat.pow_le_pow_right (n := 2) (by decide) w6)
      have d2 : cd_is M2 68 fr Z := cd_cg d1 (k2.1 _ (by decide) (by decide)) (k2.1 _ (by decide) (by decide)) (k2.1 _ (by decide) (by decide)) (k2.1 _ (by decide) (by decide)) (k2.1 _ (by decide) (by decide))
      have k12 := k1.tr (tq_tc (A := A) k2 (by omega))
      have o2 : ol3_is M2 A := fun k q hq => by rw [k2.1 73 (by decide) (by decide)]; exact o1 k q hq
      have p2 : px_w M2 (a + 1) A P := fun k p hkp => by rw [k2.1 (a + 1) (by omega) (by omega)]; exact p1 k p hkp
      have c22 : M2 74 2 = 1 := by rw [c2]; exact c1
      have hbb : b + gw fr Z ≤ 8 * D.length := s2.2.2.2
      refine bk_165_36 hF ?_
      rw [d2.1.2.1, d2.1.1, on_eq (by omega) (by omega), on_eq (by omega) (by omega), on_eq (k := P.length) (m := tot) (by omega) (by omega)]
      refine ⟨fun q1 => ⟨fun q2 => mc_inl ?_, fun q2 => ?_⟩, fun q1 => ?_⟩
      · refine cc_allows hf.2 hok d2 c64 (fun al => bk_165_92 hF ⟨fun q => absurd q (by decide), fun _ => mc_inl ?_⟩) (fun al => bk_165_92 hF ⟨fun _ => hn M2 k12 (dr_x hsome q1 q2 al) (Or.inr c22), fun q => absurd rfl q⟩)
        have hdr := dr_c (tot := tot) (P := P) (t := t) hsome q1 q2 al
        refine cc_tstr hf.2 hok hat d2 al c64 o2 hA htot hnd h64 hsh (by omega) p2 hPl (fun M3 k3 d3 hle p3 q3 => ?_) (fun M3 k3 d3 hle q3 c3 => ?_)
        · rw [if_pos hle] at hdr
          have k13 : tq_K (a + 1) A M M3 := k12.tr ⟨fun b q1 q2 => k3.1 b (by omega) q2 (by omega), k3.2, fun k _ => by rw [k3.1 65 (by omega) (by omega) (by omega)], by rw [q3]⟩
          refine bk_165_108 hF ?_
          rw [on_1, on_ad, ← List.length_append]
          have hwn := wk_nw (x := fs_c Z code) hf.2 hok hat
          refine ih (b + gw fr Z) st' (lz_bf (lz_nw Z (fs_c Z code)) code) _ (turn + 1) M3 _ (by omega) (by omega) hwn (Or.inr ⟨code, al_va hf.2 hok al, rfl⟩) d3 k13 (by rw [k3.1 65 (by omega) (by omega) (by omega)]; exact e2) s2 p3 (by rw [List.length_append]; exact hle) (by rw [q3]; exact c22) (fun M' c P' b' h1 h2 => hk M' c P' b' h1 (hdr.trans h2)) (fun M' h1 h2 => hn M' h1 (hdr.trans h2))
        · rw [if_neg hle] at hdr
          refine bk_165_108 hF ?_
          rw [on_1]
          refine dead M3 _ (turn + 1) _ (by omega) c3 (hn M3 (k12.tr ⟨fun b q1 q2 => k3.1 b (by omega) q2 (by omega), k3.2, fun k _ => by rw [k3.1 65 (by omega) (by omega) (by omega)], q3⟩) hdr (Or.inl c3))
      · have hc : code = fr := Classical.not_not.mp q2
        subst hc
        have hdr := dr_r (tot := tot) (P := P) (t := t) hsome
        rw [on_1 (k := turn), on_1 (k := code + 1)]
        generalize hM3 : mc_up (mc_up M2 68 6 (Int32.ofNat (code + 1 + 1))) 68 7 (-1) = M3
        have k3 : ∀ b, ¬ b = 68 → M3 b = M2 b := fun b q => by rw [← hM3, up_ne q, up_ne q]
        have k13 : tq_K (a + 1) A M M3 := k12.tr ⟨fun b q1 q2 => k3 b (by omega), fun q _ => by rw [k3 _ (by omega)], fun k _ => by rw [k3 65 (by decide)], by rw [k3 74 (by decide)]⟩
        refine ih (b + gw code Z) st' _ P (turn + 1) M3 _ (by omega) (by omega) (wk_rf hf.2 hok) (Or.inl ⟨rfl, rfl⟩) ⟨⟨?_, ?_, ?_, ?_⟩, ?_⟩ k13 (by rw [k3 65 (by decide)]; exact e2) s2 (fun k p hkp => by rw [k3 (a + 1) (by omega)]; exact p2 k p hkp) hPl (by rw [k3 74 (by decide)]; exact c22) (fun M' c P' b' h1 h2 => hk M' c P' b' h1 (hdr.trans h2)) (fun M' h1 h2 => hn M' h1 (hdr.trans h2))
        · rw [← hM3, up_nk (by decide), up_nk (by decide)]; exact d2.1.1
        · rw [← hM3, up_nk (by decide), up_nk (by decide)]; exact d2.1.2.1
        · rw [← hM3, up_nk (by decide), up_at]; rfl
        · rw [← hM3, up_at]; rfl
        · rw [k3 _ (by decide), k3 _ (by decide), k3 _ (by decide), k3 _ (by decide)]; exact tb_rf d2.2
      · have hc : code = fr + 1 := Classical.not_not.mp q1
        subst hc
        have hdr := dr_e (tot := tot) (P := P) (t := t) hsome
        refine ⟨fun q => hn M2 k12 (by rw [hdr, if_neg q]) (Or.inr c22), fun q => ?_⟩
        have hq := Classical.not_not.mp q
        exact hk M2 st'.1 P (b + gw fr Z) k12 (by rw [hdr, if_pos hq]) p2 hq e2 (by omega) s2.2.1 (by omega) c22
end
