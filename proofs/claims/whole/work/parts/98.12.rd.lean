/-! read: the reel: the class -/
section
variable {I M M' : rl_M} {J : Nat → Nat → Int64} {r N n : Nat} {Q : mc_Q} {B : rd_B} {S : Option Nat} {a k m q cnt a1 v sb z t : Nat} {s : Nat × Nat × Int32} {R : fr_T}
theorem ch_5 : tk_S B 0 3 (tk_S B 1 8 (tk_S B 1 8 (tk_S B 49 49 (tk_S B 80 80 (some 0))))) = if tk_v B 0 80 80 ∧ tk_v B 1 49 49 ∧ tk_v B 2 1 8 ∧ tk_v B 3 1 8 ∧ tk_v B 4 0 3 then some 5 else none := by
  by_cases q1 : tk_v B 0 80 80
  · rw [tkS_some q1]
    by_cases q2 : tk_v B 1 49 49
    · rw [tkS_some q2]
      by_cases q3 : tk_v B 2 1 8
      · rw [tkS_some q3]
        by_cases q4 : tk_v B 3 1 8
        · rw [tkS_some q4]
          by_cases q5 : tk_v B 4 0 3
          · rw [tkS_some q5, if_pos ⟨q1, q2, q3, q4, q5⟩]
          · rw [tkS_none q5, if_neg fun z => q5 z.2.2.2.2]
        · rw [tkS_none q4, if_neg fun z => q4 z.2.2.2.1]; rfl
      · rw [tkS_none q3, if_neg fun z => q3 z.2.2.1]; rfl
    · rw [tkS_none q2, if_neg fun z => q2 z.2.1]; rfl
  · rw [tkS_none q1, if_neg fun z => q1 z.1]; rfl
theorem sh_h : ∀ v : Fin 4, (2 : Int32) <<< (Int32.ofNat v.1 &&& 31) = Int32.ofNat (2 ^ (v.1 + 1)) ∧ 2 ^ (v.1 + 1) ≤ 16 := by decide
theorem cc_rhead (hB : rd_ok B) (hb : by_c M B) (hc : cur_is B M (some 0)) (hq : is_R q) (hP : 0 ≤ (M (q + 1) 1).toInt ∧ (M (q + 1) 1).toInt ≤ 16)
    (hk : ∀ M' w h v, (∀ b, ¬ b = 74 → ¬ b = q → ¬ b = q + 1 → ¬ b = q + 2 → M' b = M b) → (M' q 2 = Int32.ofNat w ∧ M' q 3 = Int32.ofNat h ∧ M' q 4 = 0) → v ≤ 3 → M' (q + 1) 1 = Int32.ofNat (2 ^ (v + 1)) → (∀ k, 2 ^ (v + 1) ≤ k → k < 16 → M' (q + 2) k = 0) → cur_is B M' (if hd_C B then some (5 + 3 * 2 ^ (B.2 4 + 1)) else none) → (hd_C B → w = B.2 2 ∧ h = B.2 3 ∧ v = B.2 4 ∧ ∀ k, k < 2 ^ (v + 1) → M' (q + 2) k = cv_f B (5 + 3 * k)) → Q (.inl none) (M', J, rf_w r, sh_w N, n)) :
    mc_WP (mc_en 158 [.ref 65, .ref q] (M, J, rf_w r, sh_w N, n)) Q := by
  have hq2 := R_lt hq
  have hPq := (wd_R (r := r) (N := N) hq).2.2.2.2.1
  refine bk_158_0 hq (mc_inl (cc_take (lo := 80) (hi := 80) hB hb hc (by decide) (by decide) fun M1 v1 k1 c1 _ w1 e1 => ?_))
  have b1 : by_c M1 B := by_cg hb (k1 _ (by decide)) (k1 _ (by decide))
  refine bk_158_11 hq (mc_inl (cc_take (lo := 49) (hi := 49) hB b1 c1 (by decide) (by decide) fun M2 v2 k2 c2 _ w2 e2 => ?_))
  have b2 : by_c M2 B := by_cg b1 (k2 _ (by decide)) (k2 _ (by decide))
  refine bk_158_23 hq (mc_inl (cc_take (lo := 1) (hi := 8) hB b2 c2 (by decide) (by decide) fun M3 w k3 c3 u3 w3 e3 => ?_))
  have b3 : by_c M3 B := by_cg b2 (k3 _ (by decide)) (k3 _ (by decide))
  refine bk_158_34 hq (mc_inl (cc_take (lo := 1) (hi := 8) hB b3 c3 (by decide) (by decide) fun M4 h k4 c4 u4 w4 e4 => ?_))
  have b4 : by_c M4 B := by_cg b3 (k4 _ (by decide)) (k4 _ (by decide))
  refine bk_158_45 hq (mc_inl (cc_take (lo := 0) (hi := 3) hB b4 c4 (by decide) (by decide) fun M5 v k5 c5 _ w5 e5 => ?_))
  have k15 : cur_K M M5 := (((k1.tr k2).tr k3).tr k4).tr k5
  obtain ⟨sh1, sh2⟩ := sh_h ⟨v, by omega⟩
  dsimp only at sh1 sh2
  refine bk_158_59 hq hq (mc_inl (bk_189_0 hq (mc_inl ?_)))
  rw [sh1]
  generalize hM6 : mc_up (mc_up (mc_up M5 q 2 (Int32.ofNat w)) q 3 (Int32.ofNat h)) q 4 0 = M6
  have k6 : ∀ b, ¬ b = q → M6 b = M5 b := fun b z => by rw [← hM6, up_ne z, up_ne z, up_ne z]
  refine cc_resz hPq (by rw [k6 _ (by omega), k15 _ (by omega)]; exact hP) sh2 fun M7 k7 _ e7 z7 => bk_189_23 hq (bk_158_63 hq (mc_inl ?_))
  have b7 : by_c M7 B := by_cg hb (by rw [k7 _ (by omega) (by omega), k6 _ (by omega), k15 _ (by omega)]) (by rw [k7 _ (by omega) (by omega), k6 _ (by omega), k15 _ (by omega)])
  have c7 : cur_is B M7 (tk_S B 0 3 (tk_S B 1 8 (tk_S B 1 8 (tk_S B 49 49 (tk_S B 80 80 (some 0)))))) := cur_cg c5 (by rw [k7 _ (by omega) (by omega), k6 _ (by omega)])
  refine cc_colours hPq hB b7 c7 e7 sh2 fun M8 k8 c8 y8 x8 => bk_158_71 hq (hk M8 w h v (fun b z1 z2 z3 z4 => ?_) ⟨?_, ?_, ?_⟩ w5 ?_ (fun k z1 z2 => ?_) ?_ (fun hC => ?_))
  · rw [k8 b z1 (by omega), k7 b z3 (by omega), k6 b z2, k15 b z1]
  · rw [k8 q (by omega) (by omega), k7 q (by omega) (by omega), ← hM6, up_nk (by decide), up_nk (by decide), up_at]
  · rw [k8 q (by omega) (by omega), k7 q (by omega) (by omega), ← hM6, up_nk (by decide), up_at]
  · rw [k8 q (by omega) (by omega), k7 q (by omega) (by omega), ← hM6, up_at]
  · rw [k8 _ (by omega) (by omega)]; exact e7
  · have := y8 k z1
    rw [show q + 1 + 1 = q + 2 by omega] at this
    rw [this]
    have := z7 k z1 z2
    rw [show q + 1 + 1 = q + 2 by omega] at this
    exact this
  · have : co_S B (2 ^ (v + 1)) (tk_S B 0 3 (tk_S B 1 8 (tk_S B 1 8 (tk_S B 49 49 (tk_S B 80 80 (some 0)))))) = if hd_C B then some (5 + 3 * 2 ^ (B.2 4 + 1)) else none := by
      rw [ch_5]
      by_cases q1 : tk_v B 0 80 80 ∧ tk_v B 1 49 49 ∧ tk_v B 2 1 8 ∧ tk_v B 3 1 8 ∧ tk_v B 4 0 3
      · obtain ⟨t1, t2, t3, t4, t5⟩ := id q1
        rw [tkS_some t1, tkS_some t2, tkS_some t3, tkS_some t4] at e5
        have ev : v = B.2 4 := e5 _ rfl t5
        rw [if_pos q1, ev]
        by_cases q2 : 5 + 3 * 2 ^ (B.2 4 + 1) ≤ B.1
        · rw [coS_some q2, if_pos ⟨t1, t2, t3, t4, t5, q2⟩]
        · rw [coS_none q2, if_neg fun z => q2 z.2.2.2.2.2]
      · rw [if_neg q1, if_neg fun z => q1 ⟨z.1, z.2.1, z.2.2.1, z.2.2.2.1, z.2.2.2.2.1⟩]; rfl
    rw [← this]; exact c8
  · obtain ⟨t1, t2, t3, t4, t5, t6⟩ := hC
    rw [tkS_some t1, tkS_some t2] at e3
    rw [tkS_some t1, tkS_some t2, tkS_some t3] at e4
    rw [tkS_some t1, tkS_some t2, tkS_some t3, tkS_some t4] at e5
    have ev : v = B.2 4 := e5 _ rfl t5
    refine ⟨e3 _ rfl t3, e4 _ rfl t4, ev, fun k hk' => ?_⟩
    have := x8 5 (by rw [ch_5, if_pos ⟨t1, t2, t3, t4, t5⟩]) (by rw [ev]; exact t6) k hk'
    rw [show q + 1 + 1 = q + 2 by omega] at this
    exact this
theorem cc_tz (hB : rd_ok B) (hb : by_c M B) (hc : cur_is B M (some a)) (ha : ¬ a < B.1) (hk : ∀ M', cur_K M M' → cur_is B M' none → Q (.inl (some (.int 0))) (M', J, rf_w r, sh_w N, n)) : mc_WP (mc_en 137 [.ref 74] (M, J, rf_w r, sh_w N, n)) Q := by
  obtain ⟨⟨p1, p2⟩, p3⟩ := hc
  have h8 := hB.1
  refine bk_137_0 ?_
  rw [p1, hb.1]
  exact ⟨fun q => absurd ((on_lt (by omega) (by omega)).mp q) ha, fun _ => hk _ (fun b z => up_ne z) ⟨⟨a, by rw [up_nk (by decide)]; exact p1, p2⟩, up_at⟩⟩
/-- what a reel that was read is -/
def pr_is (B : rd_B) (M : rl_M) (q : Nat) (Rs : List fr_T) : Prop := (M q 2 = Int32.ofNat (B.2 2) ∧ M q 3 = Int32.ofNat (B.2 3) ∧ M q 4 = Int32.ofNat Rs.length) ∧ M (q + 1) 1 = Int32.ofNat (2 ^ (B.2 4 + 1)) ∧ (∀ k, k < 16 → M (q + 2) k = if k < 2 ^ (B.2 4 + 1) then cv_f B (5 + 3 * k) else 0) ∧ ∀ f R, Rs[f]? = some R → cf_is M (q + 4 + 4 * f) R
def pr_K (q : Nat) (M M' : rl_M) : Prop := (∀ b, (b < 65 ∨ 75 ≤ b) → (b < q ∨ q + 20 ≤ b) → M' b = M b) ∧ ∀ p, is_P p → 0 ≤ (M' p 1).toInt ∧ (M' p 1).toInt ≤ 16
theorem cc_parse (hB : rd_ok B) (hb : by_c M B) (hq : is_R q) (hP : ∀ p, is_P p → 0 ≤ (M p 1).toInt ∧ (M p 1).toInt ≤ 16) (hK : ∀ a, 2 ≤ a → a ≤ 4 → M a = st_w a)
    (hn : ∀ M', pr_K q M M' → (¬ hd_C B ∨ rl_f B (B.2 4 + 1) 900 (5 + 3 * 2 ^ (B.2 4 + 1)) 0 (0, 0, -1) = none) → Q (.inl (some (.int 0))) (M', J, rf_w r, sh_w N, n))
    (hk : ∀ M' Rs, pr_K q M M' → hd_C B → rl_f B (B.2 4 + 1) 900 (5 + 3 * 2 ^ (B.2 4 + 1)) 0 (0, 0, -1) = some Rs → pr_is B M' q Rs → Rs.length ≤ 4 → Q (.inl (some (.int 1))) (M', J, rf_w r, sh_w N, n)) :
    mc_WP (mc_en 157 [.ref 65, .ref q] (M, J, rf_w r, sh_w N, n)) Q := by
  have hq2 := R_lt hq
  have h8 := hB.1
  have hPq := (wd_R (r := r) (N := N) hq).2.2.2.2.1
  refine bk_157_0 hq (mc_inl ?_)
  generalize hM0 : mc_up (mc_up M 74 1 0) 74 2 1 = M0
  have k0 : ∀ b, ¬ b = 74 → M0 b = M b := fun b z => by rw [← hM0, up_ne z, up_ne z]
  refine cc_rhead hB (by_cg hb (k0 _ (by decide)) (k0 _ (by decide))) ⟨⟨by rw [← hM0, up_nk (by decide), up_at]; rfl, Nat.zero_le _⟩, by rw [← hM0, up_at]⟩ hq (by rw [k0 _ (by omega)]; exact hP _ hPq) fun M1 w h v k1 m1 hv p1 z1 c1 x1 => ?_
  have b65 : ∀ b, (b < 65 ∨ 75 ≤ b) → (b < q ∨ q + 20 ≤ b) → M1 b = M b := fun b z1 z2 => by rw [k1 b (by omega) (by omega) (by omega) (by omega), k0 b (by omega)]
  have pp1 : ∀ p, is_P p → 0 ≤ (M1 p 1).toInt ∧ (M1 p 1).toInt ≤ 16 := fun p hp => by
    by_cases z : p = q + 1
    · have : 2 ^ (v + 1) ≤ 16 := p2_16 (by omega)
      rw [z, p1]
      generalize 2 ^ (v + 1) = xx at this
      rw [on_t (by omega)]; omega
    · have hp' := hp
      simp only [is_P, List.mem_cons, List.not_mem_nil, or_false] at hp'
      rw [k1 p (by omega) (by omega) z (by omega), k0 p (by omega)]
      exact hP p hp
  refine bk_157_12 hq ?_
  generalize hM2 : mc_up (mc_up (mc_up M1 65 5 0) 65 6 0) 65 7 (-1) = M2
  have k2 : ∀ b, ¬ b = 65 → M2 b = M1 b := fun b z => by rw [← hM2, up_ne z, up_ne z, up_ne z]
  have c2 : cur_is B M2 (if hd_C B then some (5 + 3 * 2 ^ (B.2 4 + 1)) else none) := cur_cg c1 (k2 74 (by decide))
  have K2 : pr_K q M M2 := ⟨fun b z1 z2 => by
    by_cases z : b = 65
    · omega
    · rw [k2 b z]; exact b65 b z1 z2, fun p hp => by
    have hp' := hp
    simp only [is_P, List.mem_cons, List.not_mem_nil, or_false] at hp'
    rw [k2 p (by omega)]; exact pp1 p hp⟩
  have dead : ∀ (M3 : rl_M) turn (x3 : Value), M3 74 2 = 0 → Q (.inl (some (.int 0))) (M3, J, rf_w r, sh_w N, n) → mc_WP (157, 18, [.ref 65, .ref q, .int (Int32.ofNat turn), x3], [], (M3, J, rf_w r, sh_w N, n), (0, 0)) Q := fun M3 turn x3 h0 hq' => bk_157_18 hq ⟨fun _ => hq', fun _ => ⟨fun _ => hq', fun z => absurd h0 z⟩⟩
  by_cases hC : hd_C B
  · rw [if_pos hC] at c2
    obtain ⟨xw, xh, xv, xc⟩ := x1 hC
    subst xw xh xv
    have sb4 : B.2 4 + 1 ≤ 4 := by have := hC.2.2.2.2.1.2.2; omega
    have p16 := p2_16 sb4
    -- the reel's own
    have own : ∀ M3 : rl_M, (∀ k, ¬ k = 4 → M3 q k = M2 q k) → M3 (q + 1) = M2 (q + 1) → M3 (q + 2) = M2 (q + 2) → (M3 q 2 = Int32.ofNat (B.2 2) ∧ M3 q 3 = Int32.ofNat (B.2 3)) ∧ M3 (q + 1) 1 = Int32.ofNat (2 ^ (B.2 4 + 1)) ∧ ∀ k, k < 16 → M3 (q + 2) k = if k < 2 ^ (B.2 4 + 1) then cv_f B (5 + 3 * k) else 0 := fun M3 h1 h2 h3 => by
      refine ⟨⟨?_, ?_⟩, ?_, fun k hk' => ?_⟩
      · rw [h1 2 (by decide), k2 q (by omega)]; exact m1.1
      · rw [h1 3 (by decide), k2 q (by omega)]; exact m1.2.1
      · rw [h2, k2 _ (by omega)]; exact p1
      · rw [h3, k2 _ (by omega)]
        by_cases zz : k < 2 ^ (B.2 4 + 1)
        · rw [if_pos zz]; exact xc k zz
        · rw [if_neg zz]; exact z1 k (by omega) hk'
    have run : ∀ t a (s : Nat × Nat × Int32) (Rs0 : List fr_T) turn (M3 : rl_M) (x3 : Value), a ≤ B.1 → B.1 < a + t → turn < a → Rs0.length ≤ 4 → pr_K q M M3 → cur_is B M3 (some a) → (∀ k, ¬ k = 4 → M3 q k = M2 q k) → M3 (q + 1) = M2 (q + 1) → M3 (q + 2) = M2 (q + 2) → M3 q 4 = Int32.ofNat Rs0.length → (M3 65 5 = Int32.ofNat s.1 ∧ M3 65 6 = Int32.ofNat s.2.1 ∧ M3 65 7 = s.2.2) → (∀ f R, Rs0[f]? = some R → cf_is M3 (q + 4 + 4 * f) R) →
        (∀ M', pr_K q M M' → rl_f B (B.2 4 + 1) t a Rs0.length s = none → Q (.inl (some (.int 0))) (M', J, rf_w r, sh_w N, n)) →
        (∀ M' Rs, pr_K q M M' → rl_f B (B.2 4 + 1) t a Rs0.length s = some Rs → pr_is B M' q (Rs0 ++ Rs) → (Rs0 ++ Rs).length ≤ 4 → Q (.inl (some (.int 1))) (M', J, rf_w r, sh_w N, n)) →
        mc_WP (157, 18, [.ref 65, .ref q, .int (Int32.ofNat turn), x3], [], (M3, J, rf_w r, sh_w N, n), (0, 0)) Q := by
      intro t
      induction t with
      | zero => intro a s Rs0 turn M3 x3 h1 h2; omega
      | succ t ih =>
        intro a s Rs0 turn M3 x3 ha hf ht hl K3 c3 q3 p3 o3 n3 s3 f3 hn' hk'
        have b3 : by_c M3 B := by_cg hb (K3.1 _ (by decide) (by omega)) (K3.1 _ (by decide) (by omega))
        refine bk_157_18 hq ⟨fun z => absurd ((on_le (k := 800) (by omega) (by omega)).mp z) (by omega), fun _ => ⟨fun z => absurd (c3.2.symm.trans z) (by decide), fun _ => mc_inl ?_⟩⟩
        by_cases hab : a < B.1
        rotate_left
        · have hrl := rl_0 (sb := B.2 4 + 1) (t := t) (cnt := Rs0.length) (s := s) hab
          refine cc_tz hB b3 c3 hab fun M4 k4 c4 => ?_
          have fin : mc_WP (157, 18, [.ref 65, .ref q, .int (Int32.ofNat turn + 1), .int 0], [], (mc_up M4 74 2 0, J, rf_w r, sh_w N, n), (0, 0)) Q := by
            rw [on_1]
            refine dead _ (turn + 1) _ up_at (hn' _ ⟨fun b z1 z2 => ?_, fun p hp => ?_⟩ hrl)
            · rw [up_ne (by omega), k4 b (by omega)]; exact K3.1 b z1 z2
            · have hp' := hp
              simp only [is_P, List.mem_cons, List.not_mem_nil, or_false] at hp'
              rw [up_ne (by omega), k4 p (by omega)]; exact K3.2 p hp
          exact bk_157_42 hq ⟨fun _ => ⟨fun _ => ⟨fun _ => ⟨fun _ => fin, fun z => absurd (by decide) z⟩, fun z => absurd (by decide) z⟩, fun z => absurd (by decide) z⟩, fun z => absurd (by decide) z⟩
        refine cc_take0 hB b3 c3 fun M4 y k4 c4 w4 e4 => ?_
        have K4 : ∀ M' : rl_M, (∀ b, ¬ b = 74 → M' b = M4 b) → pr_K q M M' := fun M' h => ⟨fun b z1 z2 => by
          rw [h b (by omega), k4 b (by omega)]; exact K3.1 b z1 z2, fun p hp => by
          have hp' := hp
          simp only [is_P, List.mem_cons, List.not_mem_nil, or_false] at hp'
          rw [h p (by omega), k4 p (by omega)]; exact K3.2 p hp⟩
        -- something wrong
        have bad : ∀ (M' : rl_M) x3, (∀ b, ¬ b = 74 → M' b = M4 b) → M' 74 2 = 0 → rl_f B (B.2 4 + 1) (t + 1) a Rs0.length s = none → mc_WP (157, 18, [.ref 65, .ref q, .int (Int32.ofNat turn + 1), x3], [], (M', J, rf_w r, sh_w N, n), (0, 0)) Q := fun M' x3 h1 h2 h3 => by
          rw [on_1]
          exact dead M' (turn + 1) x3 h2 (hn' M' (K4 M' h1) h3)
        · have ey : y = B.2 a := e4 a rfl hab
          subst ey
          rw [tkS_some ⟨hab, by omega, by omega⟩] at c4
          refine bk_157_42 hq ?_
          rw [show (59 : Int32) = Int32.ofNat 59 from rfl, show (33 : Int32) = Int32.ofNat 33 from rfl, show (254 : Int32) = Int32.ofNat 254 from rfl, show (44 : Int32) = Int32.ofNat 44 from rfl, on_eq (by omega) (by omega), on_eq (by omega) (by omega), on_eq (by omega) (by omega), on_eq (by omega) (by omega)]
          have n4 : M4 q 4 = Int32.ofNat Rs0.length := by rw [k4 q (by omega)]; exact n3
          refine ⟨fun y1 => ⟨fun y2 => ⟨fun y3 => ⟨fun y4 => ?_, fun y4 => ?_⟩, fun y3 => mc_inl ?_⟩, fun y2 => mc_inl ?_⟩, fun y1 => mc_inl ?_⟩
          · exact bad _ _ (fun b z => up_ne z) up_at (rl_x hab y1 y2 y3 fun z => y4 z.1)
          · rw [n4]
            refine ⟨fun y5 => ?_, fun y5 => mc_inl ?_⟩
            · have := (on_le (k := 4) (by omega) (by omega)).mp y5
              exact bad _ _ (fun b z => up_ne z) up_at (rl_x hab y1 y2 y3 fun z => by have := z.2; omega)
            · have hc4 : Rs0.length < 4 := Nat.lt_of_not_le fun z => y5 ((on_le (k := 4) (by omega) (by omega)).mpr z)
              have h44 := Classical.not_not.mp y4
              have hrl := rl_44 (sb := B.2 4 + 1) (t := t) (s := s) hab h44 hc4
              have b4 : by_c M4 B := by_cg b3 (k4 _ (by decide)) (k4 _ (by decide))
              have hlt := F_lt (is_Ff hq hc4)
              refine cc_tframe (s := s) (sb := B.2 4 + 1) hB b4 c4 hq n4 hc4 (by rw [k4 _ (by omega)]; exact K3.2 _ (is_Pf hq hc4)) (by rw [k4 65 (by decide)]; exact s3.1) (by rw [k4 65 (by decide)]; exact s3.2.1) (by rw [k4 65 (by decide)]; exact s3.2.2) (by omega) (by rw [k4 _ (by omega)]; exact (own M3 q3 p3 o3).2.1) (fun b z1 z2 => by rw [k4 b (by omega), K3.1 b (by omega) (by omega)]; exact hK b z1 z2) (fun M5 k5 n5 g5 hpf c5 => ?_) (fun M5 R z k5 n5 g5 hpf c5 f5 => ?_)
              · refine bk_157_111 hq ?_
                have K5 : ∀ M' : rl_M, (∀ b, ¬ b = 65 → M' b = M5 b) → pr_K q M M' := fun M' h => ⟨fun b z1 z2 => by
                  rw [h b (by omega), k5.1 b z1 (by omega) (by omega), k4 b (by omega)]; exact K3.1 b z1 z2, fun p hp => by
                  have hp' := hp
                  simp only [is_P, List.mem_cons, List.not_mem_nil, or_false] at hp'
                  rw [h p (by omega)]
                  by_cases zz : p = q + 4 + 4 * Rs0.length + 2
                  · rw [zz]; exact g5
                  · rw [k5.1 p (by omega) (by omega) (by omega), k4 p (by omega)]; exact K3.2 p hp⟩
                rw [on_1]
                refine dead _ (turn + 1) _ (by rw [up_ne (by decide), up_ne (by decide), up_ne (by decide)]; exact c5.2) (hn' _ (K5 _ fun b z => by rw [up_ne z, up_ne z, up_ne z]) ?_)
                rw [hrl, hpf]
              · refine bk_157_111 hq ?_
                generalize hM6 : mc_up (mc_up (mc_up M5 65 5 0) 65 6 0) 65 7 (-1) = M6
                have k6 : ∀ b, ¬ b = 65 → M6 b = M5 b := fun b z => by rw [← hM6, up_ne z, up_ne z, up_ne z]
                have K6 : pr_K q M M6 := ⟨fun b z1 z2 => by
                  rw [k6 b (by omega), k5.1 b z1 (by omega) (by omega), k4 b (by omega)]; exact K3.1 b z1 z2, fun p hp => by
                  have hp' := hp
                  simp only [is_P, List.mem_cons, List.not_mem_nil, or_false] at hp'
                  rw [k6 p (by omega)]
                  by_cases zz : p = q + 4 + 4 * Rs0.length + 2
                  · rw [zz]; exact g5
                  · rw [k5.1 p (by omega) (by omega) (by omega), k4 p (by omega)]; exact K3.2 p hp⟩
                obtain ⟨z1', z2', -⟩ := pf_z hB hpf
                have hlen : (Rs0 ++ [R]).length = Rs0.length + 1 := by rw [List.length_append]; rfl
                rw [on_1]
                refine ih z (0, 0, -1) (Rs0 ++ [R]) (turn + 1) M6 _ z2' (by omega) (by omega) (by omega) K6 (cur_cg c5 (k6 74 (by decide))) (fun k zk => by rw [k6 q (by omega), k5.2.1 k zk, k4 q (by omega)]; exact q3 k zk) (by rw [k6 _ (by omega), k5.1 _ (by omega) (by omega) (by omega), k4 _ (by omega)]; exact p3) (by rw [k6 _ (by omega), k5.1 _ (by omega) (by omega) (by omega), k4 _ (by omega)]; exact o3) (by rw [k6 q (by omega), hlen]; exact n5) ⟨by rw [← hM6, up_nk (by decide), up_nk (by decide), up_at]; rfl, by rw [← hM6, up_nk (by decide), up_at]; rfl, by rw [← hM6, up_at]⟩ (fun f R' hfR => ?_) (fun M' h1 h2 => hn' M' h1 ?_) (fun M' Rs h1 h2 h3 h4 => ?_)
                · by_cases zz : f < Rs0.length
                  · rw [List.getElem?_append_left zz] at hfR
                    refine cf_cg (f3 f R' hfR) ?_ ?_ ?_ ?_
                    · rw [k6 _ (by omega), k5.1 _ (by omega) (by omega) (by omega), k4 _ (by omega)]
                    · rw [k6 _ (by omega), k5.1 _ (by omega) (by omega) (by omega), k4 _ (by omega)]
                    · rw [k6 _ (by omega), k5.1 _ (by omega) (by omega) (by omega), k4 _ (by omega)]
                    · rw [k6 _ (by omega), k5.1 _ (by omega) (by omega) (by omega), k4 _ (by omega)]
                  · have hlt' := (List.getElem?_eq_some_iff.mp hfR).1
                    have hfe : f = Rs0.length := by omega
                    subst hfe
                    rw [List.getElem?_append_right (Nat.le_refl _), Nat.sub_self] at hfR
                    cases hfR
                    exact cf_cg f5 (k6 _ (by omega)) (k6 _ (by omega)) (k6 _ (by omega)) (k6 _ (by omega))
                · rw [hlen] at h2
                  rw [hrl, hpf]
                  show Option.map _ _ = _
                  rw [h2]; rfl
                · rw [hlen] at h2
                  refine hk' M' (R :: Rs) h1 ?_ ?_ ?_
                  · rw [hrl, hpf]
                    show Option.map _ _ = _
                    rw [h2]; rfl
                  · rw [List.append_assoc] at h3; exact h3
                  · rw [List.append_assoc] at h4; exact h4
          · have h254 := Classical.not_not.mp y3
            have hrl := rl_254 (sb := B.2 4 + 1) (t := t) (cnt := Rs0.length) (s := s) hab h254
            have b4 : by_c M4 B := by_cg b3 (k4 _ (by decide)) (k4 _ (by decide))
            have K5 : ∀ M' : rl_M, hb_K M4 M' → pr_K q M M' := fun M' h => ⟨fun b z1 z2 => by
              rw [h b (by omega) (by omega) (by omega), k4 b (by omega)]; exact K3.1 b z1 z2, fun p hp => by
              have hp' := hp
              simp only [is_P, List.mem_cons, List.not_mem_nil, or_false] at hp'
              rw [h p (by omega) (by omega) (by omega), k4 p (by omega)]; exact K3.2 p hp⟩
            refine cc_blks hB b4 c4 (fun M5 x k5 hbs c5 _ => bk_157_88 hq ?_) (fun M5 segs z k5 hbs c5 _ _ => bk_157_88 hq ?_)
            · have hbs' : bk_s B (a + 1) = none := hbs
              rw [on_1]
              refine dead M5 (turn + 1) _ c5.2 (hn' M5 (K5 M5 k5) ?_)
              rw [hrl, hbs']
            · have hbs' : bk_s B (a + 1) = some (segs, z) := hbs
              obtain ⟨z1', z2'⟩ := bks_z h8 hbs'
              rw [hbs'] at hrl
              rw [on_1]
              refine ih z s Rs0 (turn + 1) M5 _ z2' (by omega) (by omega) hl (K5 M5 k5) c5 (fun k zk => by rw [k5 q (by omega) (by omega) (by omega), k4 q (by omega)]; exact q3 k zk) (by rw [k5 _ (by omega) (by omega) (by omega), k4 _ (by omega)]; exact p3) (by rw [k5 _ (by omega) (by omega) (by omega), k4 _ (by omega)]; exact o3) (by rw [k5 q (by omega) (by omega) (by omega)]; exact n4) (by rw [k5 65 (by decide) (by decide) (by decide), k4 65 (by decide)]; exact s3) (fun f R hfR => ?_) (fun M' h1 h2 => hn' M' h1 (hrl.trans h2)) (fun M' Rs h1 h2 => hk' M' Rs h1 (hrl.trans h2))
              have hlt' := (List.getElem?_eq_some_iff.mp hfR).1
              refine cf_cg (f3 f R hfR) ?_ ?_ ?_ ?_
              · rw [k5 _ (by omega) (by omega) (by omega), k4 _ (by omega)]
              · rw [k5 _ (by omega) (by omega) (by omega), k4 _ (by omega)]
              · rw [k5 _ (by omega) (by omega) (by omega), k4 _ (by omega)]
              · rw [k5 _ (by omega) (by omega) (by omega), k4 _ (by omega)]
          · have h33 := Classical.not_not.mp y2
            have hrl := rl_33 (sb := B.2 4 + 1) (t := t) (cnt := Rs0.length) (s := s) hab h33
            have b4 : by_c M4 B := by_cg b3 (k4 _ (by decide)) (k4 _ (by decide))
            refine cc_sets hB b4 c4 fun M5 k5 n5 c5 x5 => bk_157_67 hq ?_
            have K5 : pr_K q M M5 := ⟨fun b z1 z2 => by
              rw [k5 b (by omega) (by omega), k4 b (by omega)]; exact K3.1 b z1 z2, fun p hp => by
              have hp' := hp
              simp only [is_P, List.mem_cons, List.not_mem_nil, or_false] at hp'
              rw [k5 p (by omega) (by omega), k4 p (by omega)]; exact K3.2 p hp⟩
            rw [on_1]
            by_cases hs : se_C B (a + 1)
            · rw [if_pos hs] at hrl c5
              obtain ⟨g1, g2, g3⟩ := x5 hs
              refine ih (a + 4) (se_s B (a + 1)) Rs0 (turn + 1) M5 _ (by have := hs.1; omega) (by omega) (by omega) hl K5 c5 (fun k zk => by rw [k5 q (by omega) (by omega), k4 q (by omega)]; exact q3 k zk) (by rw [k5 _ (by omega) (by omega), k4 _ (by omega)]; exact p3) (by rw [k5 _ (by omega) (by omega), k4 _ (by omega)]; exact o3) (by rw [k5 q (by omega) (by omega)]; exact n4) ⟨g1, g2, g3⟩ (fun f R hfR => ?_) (fun M' h1 h2 => hn' M' h1 (hrl.trans h2)) (fun M' Rs h1 h2 => hk' M' Rs h1 (hrl.trans h2))
              have hlt' := (List.getElem?_eq_some_iff.mp hfR).1
              refine cf_cg (f3 f R hfR) ?_ ?_ ?_ ?_
              · rw [k5 _ (by omega) (by omega), k4 _ (by omega)]
              · rw [k5 _ (by omega) (by omega), k4 _ (by omega)]
              · rw [k5 _ (by omega) (by omega), k4 _ (by omega)]
              · rw [k5 _ (by omega) (by omega), k4 _ (by omega)]
            · rw [if_neg hs] at hrl c5
              exact dead M5 (turn + 1) _ c5.2 (hn' M5 K5 hrl)
          · have h59 := Classical.not_not.mp y1
            have hrl := rl_59 (sb := B.2 4 + 1) (t := t) (cnt := Rs0.length) (s := s) hab h59
            refine bk_136_0 ?_
            have b4 : M4 54 1 = Int32.ofNat B.1 := by rw [k4 54 (by decide)]; exact b3.1
            rw [c4.1.1, b4, on_eq (by omega) (by omega)]
            refine ⟨fun z => absurd (c4.2.symm.trans z) (by decide), fun _ => ⟨fun z => bk_157_56 hq ⟨Or.inl rfl, hn' M4 (K4 M4 fun _ _ => rfl) (by rw [hrl, if_neg z])⟩, fun z => bk_157_56 hq ⟨Or.inr rfl, ?_⟩⟩⟩
            have zz := Classical.not_not.mp z
            have ow := own M4 (fun k zk => by rw [k4 q (by omega)]; exact q3 k zk) (by rw [k4 _ (by omega)]; exact p3) (by rw [k4 _ (by omega)]; exact o3)
            refine hk' M4 [] (K4 M4 fun _ _ => rfl) (by rw [hrl, if_pos zz]) ?_ (by rw [List.append_nil]; exact hl)
            rw [List.append_nil]
            refine ⟨⟨ow.1.1, ow.1.2, n4⟩, ow.2.1, ow.2.2, fun f R hfR => ?_⟩
            have hlt' := (List.getElem?_eq_some_iff.mp hfR).1
            exact cf_cg (f3 f R hfR) (k4 _ (by omega)) (k4 _ (by omega)) (k4 _ (by omega)) (k4 _ (by omega))
    refine run 900 (5 + 3 * 2 ^ (B.2 4 + 1)) (0, 0, -1) [] 0 M2 .null hC.2.2.2.2.2 (by omega) (by omega) (by show 0 ≤ 4; omega) K2 c2 (fun _ _ => rfl) rfl rfl (by rw [k2 q (by omega)]; exact m1.2.2) ⟨by rw [← hM2, up_nk (by decide), up_nk (by decide), up_at]; rfl, by rw [← hM2, up_nk (by decide), up_at]; rfl, by rw [← hM2, up_at]⟩ (fun f R h => absurd h (by simp)) (fun M' h1 h2 => hn M' h1 (Or.inr h2)) (fun M' Rs h1 h2 h3 h4 => hk M' Rs h1 hC h2 h3 h4)
  · rw [if_neg hC] at c2
    exact dead M2 0 .null c2.2 (hn M2 K2 (Or.inl hC))
end
