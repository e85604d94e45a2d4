/-! read: the reference's data -/
section
variable {I M M' : rl_M} {J : Nat → Nat → Int64} {r N n : Nat} {Q : mc_Q} {B : rd_B} {S : Option Nat} {a k m b c v w t fr tot pl e : Nat} {Z : lz_Z} {st : rd_S} {P : List Int32} {x1 x2 x3 x4 x5 x6 x7 x8 y0 : Int32} {z6 z7 z8 : Value}
theorem cm_tdata (hB : rd_ok B) (hb : by_m M B) (hm : 2 ≤ m ∧ m ≤ 4) (htot : tot ≤ 64) (hg : gd_is M (some a)) (ha : a ≤ B.1) (hpl : pl ≤ 16)
    (hn : ∀ M', dq_K M M' → (pd_f B (2 ^ m) tot a = none ∨ ∃ P z, pd_f B (2 ^ m) tot a = some (P, z) ∧ ¬ ∀ p ∈ P, p.toInt < (pl : Int)) → M' 84 22 = 0 → Q (.inl none) (M', J, rf_w r, sh_w N, n))
    (hk : ∀ M' P z, dq_K M M' → pd_f B (2 ^ m) tot a = some (P, z) → (∀ p ∈ P, p.toInt < (pl : Int)) → gd_is M' (some z) → px_m M' P → Q (.inl none) (M', J, rf_w r, sh_w N, n)) :
    mc_WP (mc_en 100 [.ref 84, .int (Int32.ofNat m), .int (Int32.ofNat tot), .int (Int32.ofNat pl)] (M, J, rf_w r, sh_w N, n)) Q := by
  have h8 := hB.1
  have fr16 : 4 ≤ 2 ^ m ∧ 2 ^ m ≤ 16 := ⟨Nat.pow_le_pow_right (n := 2) (i := 2) (by decide) hm.1, p2_16 hm.2⟩
  generalize hfr : 2 ^ m = fr at *
  have bym : ∀ M' : rl_M, dq_K M M' → by_m M' B := fun M' h => by_mg hb (h.2 10 (by decide)) (h.1 91 (by decide) (by decide))
  -- wrong
  have dead : ∀ (M1 : rl_M) (x4 x5 : Int32) (z6 z7 z8 : Value), dq_K M M1 → M1 84 22 = 0 → pd_f B fr tot a = none → mc_WP (100, 31, [.ref 84, .int (Int32.ofNat m), .int (Int32.ofNat tot), .int (Int32.ofNat pl), .int x4, .int x5, z6, z7, z8], [], (M1, J, rf_w r, sh_w N, n), (0, 0)) Q := fun M1 x4 x5 z6 z7 z8 k1 g1 hpd =>
    bk_100_31 ⟨fun _ => m_end0 g1 hB (bym M1 k1) fun M2 k2 n2 g2 => hn M2 (k1.tr ⟨fun b q _ => k2 b q, fun k q => n2 k (by omega) (by omega)⟩) (Or.inl hpd) g2, fun q => absurd g1 q⟩
  have kd : ∀ (M1 : rl_M) (x4 : Int32), dq_K M M1 → pd_f B fr tot a = none → k31 (Int32.ofNat m) (Int32.ofNat tot) (Int32.ofNat pl) x4 M1 J r N n Q := fun M1 x4 k1 hpd M2 x5 z6 z7 z8 k2 => dead M2 x4 x5 z6 z7 z8 (k1.tr (dq_w2 k2)) k2.2.2 hpd
  -- the end, behind the end's code
  have done : ∀ (M1 : rl_M) (c : rd_c) (P : List Int32) (x4 : Int32) (z6 z7 z8 : Value), dq_K M M1 → M1 84 22 = 1 → M1 84 21 = Int32.ofNat c.1 → M1 84 23 = Int32.ofNat c.2 → c.1 ≤ B.1 → c.2 < 256 → M1 84 26 = Int32.ofNat P.length → P.length ≤ tot → px_m M1 P → (¬ P.length = tot → pd_f B fr tot a = none) → (P.length = tot → pd_f B fr tot a = if c.1 + c.2 < B.1 ∧ B.2 (c.1 + c.2) = 0 then some (P, c.1 + c.2 + 1) else none) → mc_WP (100, 31, [.ref 84, .int (Int32.ofNat m), .int (Int32.ofNat tot), .int (Int32.ofNat pl), .int x4, .int 1, z6, z7, z8], [], (M1, J, rf_w r, sh_w N, n), (0, 0)) Q := fun M1 c P x4 z6 z7 z8 k1 g1 e21 e23 hc1 hc2 e26 hPl p1 hpd0 hpd1 => by
    refine bk_100_31 ⟨fun q => absurd (g1.symm.trans q) (by decide), fun _ => ⟨fun _ => ?_, fun q => absurd (by decide) q⟩⟩
    refine bk_100_280 ⟨fun q => absurd (g1.symm.trans q) (by decide), fun _ => ?_⟩
    rw [e21, e23, on_ad]
    refine bk_100_304 ⟨fun q => absurd (g1.symm.trans q) (by decide), fun _ => ?_⟩
    rw [e26, on_eq (by omega) (by omega)]
    refine ⟨fun q => ?_, fun q => ?_⟩
    · -- not so many pixels
      have hpd := hpd0 q
      refine bk_100_327 (bk_100_328 ⟨Or.inl rfl, mc_inl ?_⟩)
      generalize hM2 : mc_up (mc_up M1 84 21 (Int32.ofNat (c.1 + c.2))) 84 22 0 = M2
      have k2 : dq_K M1 M2 := ⟨fun b q _ => by rw [← hM2, up_ne q, up_ne q], fun k q => by rw [← hM2, up_nk (by omega), up_nk (by omega)]⟩
      refine cm_take (lo := 0) (hi := 0) (S := none) hB (bym M2 (k1.tr k2)) (by show M2 84 22 = 0; rw [← hM2, up_at]) (fun a h => nomatch h) (by decide) (by decide) fun M3 v k3 g3 _ _ _ _ => bk_100_337 ?_
      have g33 : M3 84 22 = 0 := g3
      have fin : mc_WP (100, 380, [.ref 84, .int (Int32.ofNat m), .int (Int32.ofNat tot), .int (Int32.ofNat pl), .int x4, .int 1, .int 0, z7, z8], [], (M3, J, rf_w r, sh_w N, n), (0, 0)) Q := bk_100_380 (hn M3 ((k1.tr k2).tr (dq_gq (gq_gt k3))) (Or.inl hpd) g33)
      exact bk_100_341 ⟨fun _ => fin, fun _ => ⟨fun _ => fin, fun z => absurd g33 z⟩⟩
    · have hpd := hpd1 (Classical.not_not.mp q)
      have hPt := Classical.not_not.mp q
      refine bk_100_328 ⟨Or.inr rfl, mc_inl ?_⟩
      generalize hM2 : mc_up (mc_up M1 84 21 (Int32.ofNat (c.1 + c.2))) 84 22 1 = M2
      have k2 : dq_K M1 M2 := ⟨fun b q _ => by rw [← hM2, up_ne q, up_ne q], fun k q => by rw [← hM2, up_nk (by omega), up_nk (by omega)]⟩
      have p2 : px_m M2 P := pm_cg2 p1 (by rw [← hM2, up_ne (by decide), up_ne (by decide)])
      refine cm_take (lo := 0) (hi := 0) (S := some (c.1 + c.2)) hB (bym M2 (k1.tr k2)) ⟨by rw [← hM2, up_nk (by decide), up_at], by rw [← hM2, up_at]⟩ (fun a h => by cases h; omega) (by decide) (by decide) fun M3 v k3 g3 _ _ _ _ => bk_100_337 ?_
      have k13 := (k1.tr k2).tr (dq_gq (gq_gt k3))
      have p3 : px_m M3 P := pm_cg2 p2 (k3.1 99 (by decide))
      by_cases hfi : c.1 + c.2 < B.1 ∧ B.2 (c.1 + c.2) = 0
      · rw [if_pos hfi] at hpd
        rw [tkS_some ⟨hfi.1, by omega, by omega⟩] at g3
        have run : ∀ d k (M4 : rl_M), k + d = tot → dq_K M M4 → px_m M4 P → gd_is M4 (some (c.1 + c.2 + 1)) → (∀ (j : Nat) (p : Int32), j < k → P[j]? = some p → p.toInt < (pl : Int)) → mc_WP (100, 341, [.ref 84, .int (Int32.ofNat m), .int (Int32.ofNat tot), .int (Int32.ofNat pl), .int x4, .int 1, .int (Int32.ofNat k), z7, z8], [], (M4, J, rf_w r, sh_w N, n), (0, 0)) Q := by
          intro d
          induction d with
          | zero =>
            intro k M4 hkd k4 p4 g4 hall
            refine bk_100_341 ⟨fun _ => bk_100_380 (hk M4 P _ k4 hpd (fun p hp => ?_) g4 p4), fun z => absurd ((on_le (by omega) (by omega)).mpr (by omega)) z⟩
            obtain ⟨j, hj1, hj2⟩ := List.getElem_of_mem hp
            exact hall j p (by omega) (by rw [List.getElem?_eq_getElem hj1, hj2])
          | succ d ih =>
            intro k M4 hkd k4 p4 g4 hall
            have hkP : k < P.length := by omega
            have e99 : M4 99 k = P[k] := p4 k _ (List.getElem?_eq_getElem hkP)
            have iff : Int32.ofNat pl ≤ P[k] ↔ ¬ P[k].toInt < (pl : Int) := by rw [Int32.le_iff_toInt_le, on_t (by omega)]; omega
            refine bk_100_341 ⟨fun z => absurd ((on_le (by omega) (by omega)).mp z) (by omega), fun _ => ⟨fun z => absurd (g4.2.symm.trans z) (by decide), fun _ => ⟨on_vp (by omega) (by omega), ?_⟩⟩⟩
            rw [on_n (by omega), e99, iff]
            refine ⟨fun z => bk_100_371 ⟨Or.inl rfl, ?_⟩, fun z => bk_100_371 ⟨Or.inr rfl, ?_⟩⟩
            · have g5 : mc_up M4 84 22 0 84 22 = 0 := up_at
              have fin : mc_WP (100, 380, [.ref 84, .int (Int32.ofNat m), .int (Int32.ofNat tot), .int (Int32.ofNat pl), .int x4, .int 1, .int (Int32.ofNat k + 1), z7, z8], [], (mc_up M4 84 22 0, J, rf_w r, sh_w N, n), (0, 0)) Q := bk_100_380 (hn _ (k4.tr ⟨fun b q _ => up_ne q, fun k q => up_nk (by omega)⟩) (Or.inr ⟨P, _, hpd, fun h => z (h _ (List.getElem_mem hkP))⟩) g5)
              exact bk_100_341 ⟨fun _ => fin, fun _ => ⟨fun _ => fin, fun y => absurd g5 y⟩⟩
            · rw [on_1]
              refine ih (k + 1) _ (by omega) (k4.tr ⟨fun b q _ => up_ne q, fun k q => up_nk (by omega)⟩) (pm_cg2 p4 (up_ne (by decide))) ⟨by rw [up_nk (by decide)]; exact g4.1, up_at⟩ (fun j p hj hp => ?_)
              by_cases y : j = k
              · subst y
                rw [List.getElem?_eq_getElem hkP] at hp
                cases hp
                exact Classical.not_not.mp z
              · exact hall j p (by omega) hp
        exact run tot 0 M3 (by omega) k13 p3 g3 (fun j p hj => by omega)
      · rw [if_neg hfi] at hpd
        rw [tkS_none fun z => hfi ⟨z.1, by have := z.2.2; omega⟩] at g3
        have g33 : M3 84 22 = 0 := g3
        have fin : mc_WP (100, 380, [.ref 84, .int (Int32.ofNat m), .int (Int32.ofNat tot), .int (Int32.ofNat pl), .int x4, .int 1, .int 0, z7, z8], [], (M3, J, rf_w r, sh_w N, n), (0, 0)) Q := bk_100_380 (hn M3 k13 (Or.inl hpd) g33)
        exact bk_100_341 ⟨fun _ => fin, fun _ => ⟨fun _ => fin, fun z => absurd g33 z⟩⟩
  -- the code that begins anew
  have fresh : ∀ (M2 : rl_M) (Z : lz_Z) (st : rd_S) (x4 : Int32) (z7 z8 : Value), M2 84 22 = 1 → md_is M2 fr Z → ms_is M2 st → (∀ M3, (∀ b, ¬ b = 84 → M3 b = M2 b) → (∀ k, ¬ k = 18 → ¬ k = 20 → ¬ k = 22 → M3 84 k = M2 84 k) → M3 84 22 = 1 → md_is M3 fr (lz_rf fr Z) → ms_is M3 st → ∀ z6 z7 z8, mc_WP (100, 31, [.ref 84, .int (Int32.ofNat m), .int (Int32.ofNat tot), .int (Int32.ofNat pl), .int 1, .int 0, z6, z7, z8], [], (M3, J, rf_w r, sh_w N, n), (0, 0)) Q) →
      mc_WP (100, 81, [.ref 84, .int (Int32.ofNat m), .int (Int32.ofNat tot), .int (Int32.ofNat pl), .int x4, .int 0, .int (Int32.ofNat fr), z7, z8], [.int 0], (M2, J, rf_w r, sh_w N, n), (0, 0)) Q := fun M2 Z st x4 z7 z8 g2 d2 s2 nx => by
    have nb : ¬ M2 84 22 = 0 := fun q => absurd (g2.symm.trans q) (by decide)
    have go : mc_WP (100, 110, [.ref 84, .int (Int32.ofNat m), .int (Int32.ofNat tot), .int (Int32.ofNat pl), .int x4, .int 0, .int (Int32.ofNat fr), .int 0, z8], [.int 1, .ref 84], (M2, J, rf_w r, sh_w N, n), (0, 0)) Q := by
      refine bk_100_110 ⟨Or.inr rfl, fun _ => bk_100_147 (bk_100_148 ⟨fun q => absurd (up_at.symm.trans q) (by decide), fun _ => ⟨fun _ => bk_100_193 ?_, fun q => absurd rfl q⟩⟩), fun q => absurd rfl q⟩
      refine bk_100_198 ⟨Or.inr rfl, fun q => absurd q (by decide), fun _ => ?_⟩
      rw [up_nk (show ¬ 19 = 22 by decide), d2.1.1, on_p2]
      refine ⟨fun q => absurd rfl q, fun _ => ?_⟩
      generalize hM3 : mc_up (mc_up (mc_up (mc_up M2 84 22 1) 84 22 1) 84 18 (Int32.ofNat (fr + 2))) 84 20 (-1) = M3
      have k3 : ∀ b, ¬ b = 84 → M3 b = M2 b := fun b q => by rw [← hM3, up_ne q, up_ne q, up_ne q, up_ne q]
      have n3 : ∀ k, ¬ k = 18 → ¬ k = 20 → ¬ k = 22 → M3 84 k = M2 84 k := fun k q1 q2 q3 => by rw [← hM3, up_nk q2, up_nk q1, up_nk q3, up_nk q3]
      have g3 : M3 84 22 = 1 := by rw [← hM3, up_nk (by decide), up_nk (by decide), up_at]
      have d3 : md_is M3 fr (lz_rf fr Z) := by
        refine ⟨⟨?_, ?_, ?_⟩, ?_⟩
        · rw [n3 19 (by decide) (by decide) (by decide)]; exact d2.1.1
        · rw [← hM3, up_nk (by decide), up_at]; rfl
        · rw [← hM3, up_at]; rfl
        · rw [k3 95 (by decide), k3 96 (by decide), k3 97 (by decide), k3 98 (by decide)]; exact tb_rf d2.2
      have s3 : ms_is M3 st := by
        unfold ms_is
        rw [n3 21 (by decide) (by decide) (by decide), n3 23 (by decide) (by decide) (by decide), n3 24 (by decide) (by decide) (by decide), n3 25 (by decide) (by decide) (by decide)]
        exact s2
      refine bk_100_252 ⟨fun q => absurd (g3.symm.trans q) (by decide), fun _ => ?_⟩
      rw [d3.1.1, on_1, on_eq (by omega) (by omega)]
      exact ⟨fun _ => bk_100_274 (bk_100_275 (nx M3 k3 n3 g3 d3 s3 _ _ _)), fun q => absurd (by omega) q⟩
    refine bk_100_81 ⟨fun q => absurd q nb, fun _ => ⟨fun _ => bk_100_105 go, fun _ => ⟨fun q => absurd d2.1.1.symm q, fun _ => bk_100_105 go⟩⟩⟩
  -- behind the first code
  have run : ∀ t st Z P (M1 : rl_M) (z6 z7 z8 : Value), mu_f B st < t → wk_ok fr Z → wk_at fr Z → md_is M1 fr Z → ms_is M1 st → (st.2.1 < 2 ^ st.2.2 ∧ st.2.2 < 8) → st.1.2 < 256 → st.1.1 ≤ B.1 → M1 84 22 = 1 → px_m M1 P → P.length ≤ tot → M1 84 26 = Int32.ofNat P.length → dq_K M M1 → (dr_f B fr tot t st Z P = none → pd_f B fr tot a = none) → (∀ c P', dr_f B fr tot t st Z P = some (c, P') → pd_f B fr tot a = if c.1 + c.2 < B.1 ∧ B.2 (c.1 + c.2) = 0 then some (P', c.1 + c.2 + 1) else none) →
      mc_WP (100, 31, [.ref 84, .int (Int32.ofNat m), .int (Int32.ofNat tot), .int (Int32.ofNat pl), .int 1, .int 0, z6, z7, z8], [], (M1, J, rf_w r, sh_w N, n), (0, 0)) Q := by
    intro t
    induction t with
    | zero => intro st Z P M1 z6 z7 z8 hmu; omega
    | succ t ih =>
      intro st Z P M1 z6 z7 z8 hmu hok hat d1 s1 hv hi hc1 g1 p1 hPl e26 k1 hp0 hp1
      have z1 := hok.1
      have w6 := gw_6 (fr := fr) (Z := Z)
      have w3 := gw_3 fr16.1 fr16.2 hok
      have bfl : Z.2.1 = -1 ∨ ∃ b : Nat, b < 64 ∧ Z.2.1 = Int32.ofNat b := by
        rcases hat with z | ⟨b, b1, b2⟩
        · exact Or.inl z.1
        · exact Or.inr ⟨b, wk_lt hok fr16.2 b1, b2⟩
      refine bk_100_31 ⟨fun q => absurd (g1.symm.trans q) (by decide), fun _ => ⟨fun q => absurd rfl q, fun _ => mc_inl ?_⟩⟩
      refine cm_tcode fr16.2 hok bfl d1 hB (bym M1 k1) s1 hv hi hc1 g1 (fun M2 x k2 hnone g2 => ?_) (fun M2 code st' k2 hsome s2 hv2 hi2 hc2 g2 => ?_)
      · exact m_b47 g2 (kd M2 1 (k1.tr (dq_gq k2)) (hp0 (dr_n hnone)))
      · obtain ⟨mu1, mu2⟩ := tc_mu (by omega) (by omega) hsome
        have c64 : code < 64 := Nat.lt_of_lt_of_le mu2 (Nat.pow_le_pow_right (n := 2) (by decide) w6)
        have k12 := k1.tr (dq_gq k2)
        have d2 : md_is M2 fr Z := md_cg d1 (fun k q1 q2 => k2.2 k (by omega)) (fun b q1 q2 => k2.1 b (by omega))
        have p2 : px_m M2 P := pm_cg2 p1 (k2.1 99 (by decide))
        have e26' : M2 84 26 = Int32.ofNat P.length := by rw [k2.2 26 (by omega)]; exact e26
        have nb : ¬ M2 84 22 = 0 := fun q => absurd (g2.symm.trans q) (by decide)
        by_cases q2 : code = fr
        · subst q2
          have hdr := dr_r (tot := tot) (P := P) (t := t) hsome
          rw [hdr] at hp0 hp1
          refine bk_100_47 ⟨fun q => absurd q nb, fun _ => ⟨fun _ => bk_100_80 ?_, fun q => absurd d2.1.1.symm q⟩⟩
          refine fresh M2 Z st' 1 _ _ g2 d2 s2 fun M3 k3 n3 g3 d3 s3 z6 z7 z8 => ?_
          exact ih st' (lz_rf code Z) P M3 z6 z7 z8 (by omega) (wk_rf fr16.2 hok) (Or.inl ⟨rfl, rfl⟩) d3 s3 hv2 hi2 hc2 g3 (pm_cg2 p2 (k3 99 (by decide))) hPl (by rw [n3 26 (by decide) (by decide) (by decide)]; exact e26') (k12.tr ⟨fun b q _ => k3 b q, fun k q => n3 k (by omega) (by omega) (by omega)⟩) hp0 hp1
        · by_cases q1 : code = fr + 1
          · subst q1
            have hdr := dr_e (tot := tot) (P := P) (t := t) hsome
            refine bk_100_47 ⟨fun q => absurd q nb, fun _ => ?_⟩
            rw [d2.1.1, on_1, on_eq (by omega) (by omega), on_eq (by omega) (by omega)]
            refine ⟨fun q => by omega, fun _ => ⟨fun _ => bk_100_80 ?_, fun q => absurd rfl q⟩⟩
            refine bk_100_81 ⟨fun q => absurd q nb, fun _ => ⟨fun _ => bk_100_105 ?_, fun q => absurd (by decide) q⟩⟩
            refine bk_100_110 ⟨Or.inr rfl, fun _ => bk_100_147 (bk_100_148 ⟨fun q => absurd (up_at.symm.trans q) (by decide), fun _ => ⟨fun _ => bk_100_193 ?_, fun q => absurd rfl q⟩⟩), fun q => absurd rfl q⟩
            refine bk_100_198 ⟨Or.inr rfl, fun q => absurd q (by decide), fun _ => ?_⟩
            rw [up_nk (show ¬ 19 = 22 by decide), d2.1.1, on_eq (by omega) (by omega)]
            refine ⟨fun _ => ?_, fun q => absurd (by omega) q⟩
            generalize hM3 : mc_up (mc_up M2 84 22 1) 84 22 1 = M3
            have k3 : ∀ b, ¬ b = 84 → M3 b = M2 b := fun b q => by rw [← hM3, up_ne q, up_ne q]
            have n3 : ∀ k, ¬ k = 22 → M3 84 k = M2 84 k := fun k q => by rw [← hM3, up_nk q, up_nk q]
            have g3 : M3 84 22 = 1 := by rw [← hM3, up_at]
            refine bk_100_227 ⟨fun q => absurd (g3.symm.trans q) (by decide), fun _ => ⟨fun _ => ?_, fun q => absurd rfl q⟩⟩
            refine bk_100_252 ⟨fun q => absurd (g3.symm.trans q) (by decide), fun _ => ?_⟩
            rw [n3 19 (by decide), d2.1.1, on_1]
            refine ⟨fun q => absurd rfl q, fun _ => bk_100_275 ?_⟩
            refine done M3 st'.1 P 1 _ _ _ (k12.tr ⟨fun b q _ => k3 b q, fun k q => n3 k (by omega)⟩) g3 (by rw [n3 21 (by decide)]; exact s2.1) (by rw [n3 23 (by decide)]; exact s2.2.1) hc2 hi2 (by rw [n3 26 (by decide)]; exact e26') hPl (pm_cg2 p2 (k3 99 (by decide))) (fun h => hp0 (by rw [hdr, if_neg h])) (fun h => hp1 _ _ (by rw [hdr, if_pos h]))
          · -- a pixel's code
            refine bk_100_47 ⟨fun q => absurd q nb, fun _ => ?_⟩
            rw [d2.1.1, on_1, on_eq (by omega) (by omega), on_eq (by omega) (by omega)]
            refine ⟨fun q => absurd q q2, fun _ => ⟨fun q => absurd q q1, fun _ => ?_⟩⟩
            refine bk_100_81 ⟨fun q => absurd q nb, fun _ => ⟨fun _ => bk_100_105 ?_, fun q => absurd (by decide) q⟩⟩
            generalize hM3 : mc_up M2 84 22 1 = M3
            have k3 : ∀ b, ¬ b = 84 → M3 b = M2 b := fun b q => by rw [← hM3, up_ne q]
            have n3 : ∀ k, ¬ k = 22 → M3 84 k = M2 84 k := fun k q => by rw [← hM3, up_nk q]
            have g3 : M3 84 22 = 1 := by rw [← hM3, up_at]
            have K3 : dq_K M M3 := k12.tr ⟨fun b q _ => k3 b q, fun k q => n3 k (by omega)⟩
            -- whether it is allowed
            have al : ∀ own : Int32, (own = 0 ↔ ¬ (code = Z.1 ∧ ¬ Z.2.1 = -1 ∧ Z.1 ≤ 63)) → mc_WP (100, 148, [.ref 84, .int (Int32.ofNat m), .int (Int32.ofNat tot), .int (Int32.ofNat pl), .int 1, .int 0, .int (Int32.ofNat code), .int 1, z8], [.int own], (M3, J, rf_w r, sh_w N, n), (0, 0)) Q := fun own ho => by
              have yes : al_c fr Z code → mc_WP (100, 193, [.ref 84, .int (Int32.ofNat m), .int (Int32.ofNat tot), .int (Int32.ofNat pl), .int 1, .int 0, .int (Int32.ofNat code), .int 1, .int own], [.ref 84], (M3, J, rf_w r, sh_w N, n), (0, 0)) Q := fun hal => by
                have hdr := dr_c (tot := tot) (P := P) (t := t) hsome q1 q2 hal
                refine bk_100_193 (bk_100_198 ⟨Or.inr rfl, fun q => absurd q (by decide), fun _ => ?_⟩)
                rw [n3 19 (by decide), d2.1.1, on_eq (by omega) (by omega)]
                refine ⟨fun _ => ?_, fun q => absurd q2 q⟩
                generalize hM4 : mc_up M3 84 22 1 = M4
                have k4 : ∀ b, ¬ b = 84 → M4 b = M3 b := fun b q => by rw [← hM4, up_ne q]
                have n4 : ∀ k, ¬ k = 22 → M4 84 k = M3 84 k := fun k q => by rw [← hM4, up_nk q]
                have g4 : M4 84 22 = 1 := by rw [← hM4, up_at]
                have d4 : md_is M4 fr Z := md_cg d2 (fun k q1 q2 => by rw [n4 k (by omega), n3 k (by omega)]) (fun b q1 q2 => by rw [k4 b (by omega), k3 b (by omega)])
                refine bk_100_227 ⟨fun q => absurd (g4.symm.trans q) (by decide), fun _ => ⟨fun q => absurd q (by decide), fun _ => mc_inl ?_⟩⟩
                refine cm_enter2 fr16.2 hok hat d4 hal c64 fun M5 k5 d5 => bk_100_245 (mc_inl ?_)
                have hwn := wk_nw (x := fs_c Z code) fr16.2 hok hat
                have hva := al_va (x := fs_c Z code) fr16.2 hok hal
                have K5 : dq_K M M5 := K3.tr ⟨fun b q1 q2 => by rw [k5.1 b q1 (by omega) (by omega) (by omega) (by omega), k4 b q1], fun k q => by rw [k5.2 k (by omega) (by omega) (by omega), n4 k (by omega)]⟩
                have p5 : px_m M5 P := pm_cg2 p2 (by rw [k5.1 99 (by decide) (by decide) (by decide) (by decide) (by decide), k4 99 (by decide), k3 99 (by decide)])
                have e5 : M5 84 26 = Int32.ofNat P.length := by rw [k5.2 26 (by decide) (by decide) (by decide), n4 26 (by decide), n3 26 (by decide)]; exact e26'
                have g5 : M5 84 22 = 1 := by rw [k5.2 22 (by decide) (by decide) (by decide)]; exact g4
                have s5 : ms_is M5 st' := by
                  unfold ms_is
                  rw [k5.2 21 (by decide) (by decide) (by decide), k5.2 23 (by decide) (by decide) (by decide), k5.2 24 (by decide) (by decide) (by decide), k5.2 25 (by decide) (by decide) (by decide), n4 21 (by decide), n4 23 (by decide), n4 24 (by decide), n4 25 (by decide), n3 21 (by decide), n3 23 (by decide), n3 24 (by decide), n3 25 (by decide)]
                  exact s2
                refine cm_comes (Z := lz_bf (lz_nw Z (fs_c Z code)) code) fr16.2 hwn d5 hva htot p5 hPl e5 g5 (fun M6 k6 n6 hle p6 e6 g6 => ?_) (fun M6 k6 n6 hle g6 => ?_)
                · have hle' : P.length + ((lz_nw Z (fs_c Z code)).2.2.1 code).length ≤ tot := hle
                  rw [if_pos hle'] at hdr
                  rw [hdr] at hp0 hp1
                  have d6 : md_is M6 fr (lz_bf (lz_nw Z (fs_c Z code)) code) := md_cg d5 (fun k q1 q2 => n6 k (by omega) (by omega)) (fun b q1 q2 => k6 b (by omega) (by omega))
                  refine bk_100_252 ⟨fun q => absurd (g6.symm.trans q) (by decide), fun _ => ?_⟩
                  rw [d6.1.1, on_1, on_eq (by omega) (by omega)]
                  refine ⟨fun _ => bk_100_274 (bk_100_275 ?_), fun q => absurd q1 q⟩
                  refine ih st' (lz_bf (lz_nw Z (fs_c Z code)) code) _ M6 _ _ _ (by omega) hwn (Or.inr ⟨code, hva, rfl⟩) d6 ?_ hv2 hi2 hc2 g6 p6 (by rw [List.length_append]; exact hle) e6 (K5.tr ⟨fun b q1 q2 => k6 b q1 (by omega), fun k q => n6 k (by omega) (by omega)⟩) hp0 hp1
                  unfold ms_is
                  rw [n6 21 (by decide) (by decide), n6 23 (by decide) (by decide), n6 24 (by decide) (by decide), n6 25 (by decide) (by decide)]
                  exact s5
                · have hle' : ¬ P.length + ((lz_nw Z (fs_c Z code)).2.2.1 code).length ≤ tot := hle
                  rw [if_neg hle'] at hdr
                  exact m_b252 g6 (kd M6 1 (K5.tr ⟨fun b q1 q2 => k6 b q1 (by omega), fun k q => n6 k (by omega) (by omega)⟩) (hp0 hdr))
              have no : ¬ al_c fr Z code → mc_WP (100, 197, [.ref 84, .int (Int32.ofNat m), .int (Int32.ofNat tot), .int (Int32.ofNat pl), .int 1, .int 0, .int (Int32.ofNat code), .int 1, .int own], [.ref 84], (M3, J, rf_w r, sh_w N, n), (0, 0)) Q := fun hal => bk_100_197 (m_b198 (kd M3 1 K3 (hp0 (dr_x hsome q1 q2 hal))))
              have e18 : M3 84 18 = Int32.ofNat Z.1 := by rw [n3 18 (by decide)]; exact d2.1.2.1
              have e19 : M3 84 19 = Int32.ofNat fr := by rw [n3 19 (by decide)]; exact d2.1.1
              have e20 : M3 84 20 = Z.2.1 := by rw [n3 20 (by decide)]; exact d2.1.2.2
              refine bk_100_148 ⟨fun q => absurd (g3.symm.trans q) (by decide), fun _ => ⟨fun q => absurd q (by decide), fun _ => ?_⟩⟩
              rw [e18, e19, e20, on_lt (by omega) (by omega), on_le (by omega) (by omega)]
              refine ⟨fun q => yes (Or.inl q), fun q => ⟨fun q5 => bk_100_188 ⟨fun q6 => no fun hal => ?_, fun q6 => yes (Or.inr (Or.inr (Classical.byContradiction fun y => q6 (ho.mpr y))))⟩, fun q5 => ⟨fun q6 => yes (Or.inr (Or.inl ⟨by omega, by omega⟩)), fun q6 => bk_100_188 ⟨fun q7 => no fun hal => ?_, fun q7 => yes (Or.inr (Or.inr (Classical.byContradiction fun y => q7 (ho.mpr y))))⟩⟩⟩⟩
              · rcases hal with u | u | u
                · exact q u
                · omega
                · exact ho.mp q6 u
              · have hm1 : Z.2.1 = -1 := by
                  rcases bfl with y | ⟨b, y1, y2⟩
                  · exact y
                  · rw [y2] at q6
                    exact absurd ((on_le (k := 0) (by omega) (by omega)).mpr (Nat.zero_le _)) q6
                rcases hat with y | ⟨b, y1, y2⟩
                · rcases hal with u | u | u
                  · exact q u
                  · omega
                  · exact u.2.1 hm1
                · rw [hm1] at y2
                  exact on_m1 (by have := wk_lt hok fr16.2 y1; omega) y2.symm
            have e18' : M2 84 18 = Int32.ofNat Z.1 := d2.1.2.1
            have e20' : M2 84 20 = Z.2.1 := d2.1.2.2
            have m3 : mc_up M2 84 22 1 = M3 := hM3
            refine bk_100_110 ⟨Or.inr rfl, fun q => absurd q (by decide), fun _ => ?_⟩
            rw [m3, e18', e20', bf_lt0 bfl, on_eq (by omega) (by omega)]
            refine ⟨fun y => bk_100_147 (al 0 ⟨fun _ u => u.2.1 y, fun _ => rfl⟩), fun y => ⟨fun y2 => bk_100_147 (al 0 ⟨fun _ u => ?_, fun _ => rfl⟩), fun y2 => ⟨fun y3 => bk_100_147 (al 0 ⟨fun _ u => y3 u.1, fun _ => rfl⟩), fun y3 => al 1 ⟨fun u => absurd u (by decide), fun u => absurd ⟨Classical.not_not.mp y3, y, ?_⟩ u⟩⟩⟩⟩
            · have := (on_le (k := 64) (by omega) (by omega)).mp y2
              omega
            · have : ¬ 64 ≤ Z.1 := fun u => y2 ((on_le (k := 64) (by omega) (by omega)).mpr u)
              omega
  -- the first code
  refine bk_100_0 (mc_inl (cm_begin2 hm.2 hfr.symm fun M1 k1 d1 => bk_100_5 ?_))
  generalize hM2 : mc_up (mc_up (mc_up (mc_up M1 84 24 0) 84 25 0) 84 23 0) 84 26 0 = M2
  have k2 : ∀ b, ¬ b = 84 → M2 b = M1 b := fun b q => by rw [← hM2, up_ne q, up_ne q, up_ne q, up_ne q]
  have n2 : ∀ k, ¬ k = 23 → ¬ k = 24 → ¬ k = 25 → ¬ k = 26 → M2 84 k = M1 84 k := fun k q1 q2 q3 q4 => by rw [← hM2, up_nk q4, up_nk q1, up_nk q3, up_nk q2]
  have K2 : dq_K M M2 := ⟨fun b q1 q2 => by rw [k2 b q1, k1.1 b q1 (by omega) (by omega) (by omega) (by omega)], fun k q => by rw [n2 k (by omega) (by omega) (by omega) (by omega), k1.2 k (by omega) (by omega) (by omega)]⟩
  have d2 : md_is M2 fr (lz_0 fr) := md_cg d1 (fun k q1 q2 => n2 k (by omega) (by omega) (by omega) (by omega)) (fun b q1 q2 => k2 b (by omega))
  have g2 : M2 84 22 = 1 := by rw [n2 22 (by decide) (by decide) (by decide) (by decide), k1.2 22 (by decide) (by decide) (by decide)]; exact hg.2
  have s2 : ms_is M2 ((a, 0), 0, 0) := by
    refine ⟨?_, ?_, ?_, ?_⟩
    · rw [n2 21 (by decide) (by decide) (by decide) (by decide), k1.2 21 (by decide) (by decide) (by decide)]; exact hg.1
    · rw [← hM2, up_nk (by decide), up_at]; rfl
    · rw [← hM2, up_nk (by decide), up_nk (by decide), up_nk (by decide), up_at]; rfl
    · rw [← hM2, up_nk (by decide), up_nk (by decide), up_at]; rfl
  have e26 : M2 84 26 = 0 := by rw [← hM2, up_at]
  have ok0 := wk_0 (fr := fr) fr16.2
  have w6 := gw_6 (fr := fr) (Z := lz_0 fr)
  have w3 := gw_3 fr16.1 fr16.2 ok0
  refine bk_100_31 ⟨fun q => absurd (g2.symm.trans q) (by decide), fun _ => ⟨fun q => absurd rfl q, fun _ => mc_inl ?_⟩⟩
  refine cm_tcode fr16.2 ok0 (Or.inl rfl) d2 hB (bym M2 K2) s2 ⟨by show 0 < 2 ^ 0; decide, by show 0 < 8; decide⟩ (by show 0 < 256; decide) ha g2 (fun M3 x k3 hnone g3 => ?_) (fun M3 code st' k3 hsome s3 hv3 hi3 hc3 g3 => ?_)
  · exact m_b47 g3 (kd M3 0 (K2.tr (dq_gq k3)) (pd_1 hnone))
  · obtain ⟨mu1, mu2⟩ := tc_mu (by omega) (by omega) hsome
    have c64 : code < 64 := Nat.lt_of_lt_of_le mu2 (Nat.pow_le_pow_right (n := 2) (by decide) w6)
    have K3 := K2.tr (dq_gq k3)
    have d3 : md_is M3 fr (lz_0 fr) := md_cg d2 (fun k q1 q2 => k3.2 k (by omega)) (fun b q1 q2 => k3.1 b (by omega))
    have nb : ¬ M3 84 22 = 0 := fun q => absurd (g3.symm.trans q) (by decide)
    by_cases q : code = fr
    · subst q
      refine bk_100_47 ⟨fun q => absurd q nb, fun _ => ⟨fun _ => bk_100_80 ?_, fun q => absurd d3.1.1.symm q⟩⟩
      refine fresh M3 (lz_0 code) st' 0 _ _ g3 d3 s3 fun M4 k4 n4 g4 d4 s4 z6 z7 z8 => ?_
      have hmu0 : mu_f B st' < 7000 := by
        have : mu_f B ((a, 0), 0, 0) ≤ 6400 := by unfold mu_f; dsimp only; omega
        omega
      refine run 7000 st' (lz_0 code) [] M4 z6 z7 z8 hmu0 ok0 (Or.inl ⟨rfl, rfl⟩) d4 s4 hv3 hi3 hc3 g4 (fun k p h => absurd h (by simp)) (Nat.zero_le _) (by rw [n4 26 (by decide) (by decide) (by decide), k3.2 26 (by omega)]; exact e26) (K3.tr ⟨fun b q _ => k4 b q, fun k q => n4 k (by omega) (by omega) (by omega)⟩) (fun h => pd_3 hsome h) (fun c P' h => pd_4 hsome h)
    · have hpd := pd_2 (tot := tot) hsome q
      have bad : ∀ fl : Int32, mc_WP (100, 81, [.ref 84, .int (Int32.ofNat m), .int (Int32.ofNat tot), .int (Int32.ofNat pl), .int 0, .int 0, .int (Int32.ofNat code), .null, .null], [.int fl], (M3, J, rf_w r, sh_w N, n), (0, 0)) Q := fun fl => by
        refine bk_100_81 ⟨fun q => absurd q nb, fun _ => ⟨fun q => absurd rfl q, fun _ => ?_⟩⟩
        rw [d3.1.1, on_eq (by omega) (by omega)]
        exact ⟨fun _ => bk_100_109 (m_b110 (kd M3 0 K3 hpd)), fun y => absurd q y⟩
      refine bk_100_47 ⟨fun q => absurd q nb, fun _ => ⟨fun _ => bk_100_80 (bad 0), fun _ => ⟨fun _ => bk_100_80 (bad 0), fun _ => bad 1⟩⟩⟩
end
