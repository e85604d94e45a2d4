/-! read: a frame: the class -/
section
variable {I M M' : rl_M} {J : Nat → Nat → Int64} {r N n : Nat} {Q : mc_Q} {B : rd_B} {S : Option Nat} {a k m q cnt a1 v sb z : Nat} {s : Nat × Nat × Int32} {R : fr_T}
def cf_A (R : fr_T) : List Nat := pw_l R.1.2.2.1 (rw_l (Int32.ofNat R.2.1.1) R.1.2.2.2)
def cf_is (M : rl_M) (a1 : Nat) (R : fr_T) : Prop := (M a1 2 = Int32.ofNat R.1.1 ∧ M a1 3 = Int32.ofNat R.1.2.1 ∧ M a1 4 = Int32.ofNat R.1.2.2.1 ∧ M a1 5 = Int32.ofNat R.1.2.2.2) ∧ (M a1 6 = Int32.ofNat R.2.2.1.1 ∧ M a1 7 = Int32.ofNat R.2.2.1.2.1 ∧ M a1 8 = R.2.2.1.2.2 ∧ M a1 9 = Int32.ofNat R.2.1.1) ∧ M (a1 + 2) 1 = Int32.ofNat (cn_b R.2.1.2) ∧ (∀ k, k < 16 → M (a1 + 2 + 1) k = R.2.2.2.1 k) ∧ px_w M (a1 + 1) (cf_A R) R.2.2.2.2 ∧ ∀ j, j < 64 → ¬ j ∈ cf_A R → M (a1 + 1) j = 0
def tf_K (q a1 : Nat) (M M' : rl_M) : Prop := (∀ b, (b < 65 ∨ 75 ≤ b) → ¬ b = q → (b < a1 ∨ a1 + 4 ≤ b) → M' b = M b) ∧ (∀ k, ¬ k = 4 → M' q k = M q k) ∧ ∀ k, ¬ k = 4 → M' 65 k = M 65 k
theorem S7_ok (hB : rd_ok B) (hv : ∀ a', tk_S B 1 8 (tk_S B 1 8 (tk_S B 0 7 (tk_S B 0 7 (some a)))) = some a' → tk_v B a' 0 15 → v = B.2 a') :
    tk_S B 2 4 (co_S B (cn_b (fl_b v)) (if fl_o v then tk_S B 0 15 (tk_S B 1 8 (tk_S B 1 8 (tk_S B 0 7 (tk_S B 0 7 (some a))))) else none)) = (if pf_C B a then some (a + 6 + 3 * pf_n B a) else none) ∧ (pf_C B a → v = B.2 (a + 4)) := by
  rw [ch_4] at hv ⊢
  by_cases q1 : tk_v B a 0 7 ∧ tk_v B (a + 1) 0 7 ∧ tk_v B (a + 2) 1 8 ∧ tk_v B (a + 3) 1 8
  · rw [if_pos q1] at hv ⊢
    by_cases q2 : tk_v B (a + 4) 0 15
    · have e := hv _ rfl q2
      rw [tkS_some q2, e]
      by_cases q3 : fl_o (B.2 (a + 4))
      · rw [if_pos q3]
        have en : cn_b (fl_b (B.2 (a + 4))) = pf_n B a := rfl
        rw [en]
        by_cases q4 : a + 4 + 1 + 3 * pf_n B a ≤ B.1
        · rw [coS_some q4]
          by_cases q5 : tk_v B (a + 5 + 3 * pf_n B a) 2 4
          · have q5' : tk_v B (a + 4 + 1 + 3 * pf_n B a) 2 4 := q5
            rw [tkS_some q5', if_pos ⟨q1, q2, q3, q4, q5⟩]
            exact ⟨by congr 1; omega, fun _ => rfl⟩
          · have q5' : ¬ tk_v B (a + 4 + 1 + 3 * pf_n B a) 2 4 := q5
            rw [tkS_none q5', if_neg fun z => q5 z.2.2.2.2]
            exact ⟨rfl, fun z => absurd z.2.2.2.2 q5⟩
        · rw [coS_none q4, if_neg fun z => q4 z.2.2.2.1]
          exact ⟨rfl, fun z => absurd z.2.2.2.1 q4⟩
      · rw [if_neg q3, if_neg fun z => q3 z.2.2.1]
        exact ⟨rfl, fun z => absurd z.2.2.1 q3⟩
    · rw [tkS_none q2, if_neg (show ¬ pf_C B a from fun z => q2 z.2.1)]
      exact ⟨by split <;> rfl, fun z => absurd z.2.1 q2⟩
  · rw [if_neg q1, if_neg (show ¬ pf_C B a from fun z => q1 z.1)]
    exact ⟨by split <;> rfl, fun z => absurd z.1 q1⟩
theorem cc_tframe (hB : rd_ok B) (hb : by_c M B) (hc : cur_is B M (some a)) (hq : is_R q) (hcnt : M q 4 = Int32.ofNat cnt) (hc4 : cnt < 4) (hP : 0 ≤ (M (q + 4 + 4 * cnt + 2) 1).toInt ∧ (M (q + 4 + 4 * cnt + 2) 1).toInt ≤ 16) (e5 : M 65 5 = Int32.ofNat s.1) (e6 : M 65 6 = Int32.ofNat s.2.1) (e7 : M 65 7 = s.2.2) (hsb : 1 ≤ sb ∧ sb ≤ 4) (hsh : M (q + 1) 1 = Int32.ofNat (2 ^ sb)) (hK : ∀ a, 2 ≤ a → a ≤ 4 → M a = st_w a)
    (hn : ∀ M', tf_K q (q + 4 + 4 * cnt) M M' → M' q 4 = Int32.ofNat (cnt + 1) → (0 ≤ (M' (q + 4 + 4 * cnt + 2) 1).toInt ∧ (M' (q + 4 + 4 * cnt + 2) 1).toInt ≤ 16) → pf_f B a sb s = none → cur_is B M' none → Q (.inl none) (M', J, rf_w r, sh_w N, n))
    (hk : ∀ M' R z, tf_K q (q + 4 + 4 * cnt) M M' → M' q 4 = Int32.ofNat (cnt + 1) → (0 ≤ (M' (q + 4 + 4 * cnt + 2) 1).toInt ∧ (M' (q + 4 + 4 * cnt + 2) 1).toInt ≤ 16) → pf_f B a sb s = some (R, z) → cur_is B M' (some z) → cf_is M' (q + 4 + 4 * cnt) R → Q (.inl none) (M', J, rf_w r, sh_w N, n)) :
    mc_WP (mc_en 162 [.ref 65, .ref q] (M, J, rf_w r, sh_w N, n)) Q := by
  have hq2 := R_lt hq
  have h8 := hB.1
  generalize ha1 : q + 4 + 4 * cnt = a1 at *
  have hF : is_F a1 := by rw [← ha1]; exact is_Ff hq hc4
  have hlt := F_lt hF
  have hsh1 := (wd_F (r := r) (N := N) hF).2.2.2.1
  refine bk_162_0 hq (mc_inl (cc_place hB hb hc hq hcnt hc4 ha1.symm hP e5 e6 e7 fun M1 v1 v2 v3 v4 k1 m1 n1 c1 w1 x1 f1 z1 g1 y1 => ?_))
  have b1 : by_c M1 B := by_cg hb (k1 _ (by decide) (by omega) (by omega)) (k1 _ (by decide) (by omega) (by omega))
  refine bk_162_5 hq hF (mc_inl (cc_flags hB b1 c1 hF g1 y1 fun M2 v5 k2 n2 w2 c2 x2 f2 g2 y2 => ?_))
  have b2 : by_c M2 B := by_cg b1 (k2 _ (by decide) (by omega) (by omega) (by omega)) (k2 _ (by decide) (by omega) (by omega) (by omega))
  have h16 : cn_b (fl_b v5) ≤ 16 := cn_16 (flb_4 w2)
  refine bk_162_11 hq hF (mc_inl (cc_colours (wd_F (r := r) (N := N) hF).2.2.2.2.2 hB b2 c2 g2 h16 fun M3 k3 c3 y3 x3 => ?_))
  have b3 : by_c M3 B := by_cg b2 (k3 _ (by decide) (by omega)) (k3 _ (by decide) (by omega))
  refine bk_162_19 hq hF (mc_inl (cc_take (lo := 2) (hi := 4) hB b3 c3 (by decide) (by decide) fun M4 m k4 c4 u4 w4 x4 => ?_))
  obtain ⟨s7, s7v⟩ := S7_ok hB (v := v5) (a := a) x2
  rw [s7] at c4
  refine bk_162_32 hq hF (by decide) (mc_inl ?_)
  refine cc_begin2 (a0 := 68) (fr := 2 ^ m) (by decide) w4 rfl fun M5 k5 d5 => bk_162_35 hq hF (mc_inl ?_)
  have fr16 : 4 ≤ 2 ^ m ∧ 2 ^ m ≤ 16 := ⟨Nat.pow_le_pow_right (n := 2) (i := 2) (by decide) u4, p2_16 w4⟩
  have b5 : by_c M5 B := by_cg b3 (by rw [k5 _ (by omega), k4 _ (by decide)]) (by rw [k5 _ (by omega), k4 _ (by decide)])
  have c5 : cur_is B M5 (if pf_C B a then some (a + 6 + 3 * pf_n B a) else none) := cur_cg c4 (k5 74 (by omega))
  -- what is as it was
  have q5 : ∀ b, (b < 65 ∨ 75 ≤ b) → ¬ b = q → (b < a1 ∨ a1 + 4 ≤ b) → M5 b = M b := fun b z0 z1 z2 => by
    rw [k5 b (by omega), k4 b (by omega), k3 b (by omega) (by omega), k2 b (by omega) (by omega) (by omega) (by omega), k1 b (by omega) z1 z2]
  have r5 : ∀ k, M5 q k = M1 q k := fun k => by rw [k5 q (by omega), k4 q (by omega), k3 q (by omega) (by omega), k2 q (by omega) (by omega) (by omega) (by omega)]
  have t5 : ∀ k, M5 65 k = M 65 k := fun k => by rw [k5 65 (by omega), k4 65 (by omega), k3 65 (by omega) (by omega), k2 65 (by omega) (by omega) (by omega) (by omega), k1 65 (by omega) (by omega) (by omega)]
  have a5 : ∀ k, M5 a1 k = M2 a1 k := fun k => by rw [k5 a1 (by omega), k4 a1 (by omega), k3 a1 (by omega) (by omega)]
  have p5 : M5 (a1 + 2) 1 = Int32.ofNat (cn_b (fl_b v5)) := by rw [k5 _ (by omega), k4 _ (by omega), k3 _ (by omega) (by omega)]; exact g2
  have o5 : ∀ k, M5 (a1 + 2 + 1) k = M3 (a1 + 2 + 1) k := fun k => by rw [k5 _ (by omega), k4 _ (by omega)]
  have i5 : ∀ k, k < 64 → M5 (a1 + 1) k = 0 := fun k hk' => by rw [k5 _ (by omega), k4 _ (by omega), k3 _ (by omega) (by omega), k2 _ (by omega) (by omega) (by omega) (by omega)]; exact z1 k hk'
  have e54 : M5 a1 4 = Int32.ofNat v3 := by rw [a5, n2 4 (by decide)]; exact f1.2.2.1
  have e55 : M5 a1 5 = Int32.ofNat v4 := by rw [a5, n2 5 (by decide)]; exact f1.2.2.2.1
  have e59 : M5 a1 9 = Int32.ofNat (v5 % 2) := by rw [a5]; exact f2
  have h9 : Int32.ofNat (v5 % 2) = 0 ∨ Int32.ofNat (v5 % 2) = 1 := by
    rcases (show v5 % 2 = 0 ∨ v5 % 2 = 1 by omega) with z | z <;> rw [z]
    · exact Or.inl rfl
    · exact Or.inr rfl
  -- the end, wrong
  have endn : ∀ M' : rl_M, (∀ b, (b < 65 ∨ 75 ≤ b) → ¬ b = a1 + 1 → M' b = M5 b) → (∀ k, ¬ k = 4 → M' 65 k = M5 65 k) → M' 74 1 = M5 74 1 ∨ (∃ e, M' 74 1 = Int32.ofNat e ∧ e ≤ B.1) → pf_f B a sb s = none → Q (.inl none) (mc_up M' 74 2 0, J, rf_w r, sh_w N, n) := fun M' h1 h2 h3 h4 => by
    refine hn _ ⟨fun b z0 z1 z2 => by rw [up_ne (by omega), h1 b z0 (by omega)]; exact q5 b z0 z1 z2, fun k z => by rw [up_ne (by omega), h1 q (by omega) (by omega), r5]; exact n1 k z, fun k z => by rw [up_ne (by omega), h2 k z]; exact t5 k⟩ (by rw [up_ne (by omega), h1 q (by omega) (by omega), r5]; exact m1) (by rw [up_ne (by omega), h1 _ (by omega) (by omega), p5, on_t (by omega)]; omega) h4 ⟨?_, up_at⟩
    rcases h3 with h3 | ⟨e, e1, e2⟩
    · obtain ⟨e, e1, e2, -, -⟩ := cur_pos c5
      exact ⟨e, by rw [up_nk (by decide), h3]; exact e1, e2⟩
    · exact ⟨e, by rw [up_nk (by decide)]; exact e1, e2⟩
  -- once wrong
  have dead : ∀ (M6 : rl_M) x3, hb_K M5 M6 → pf_f B a sb s = none → cur_is B M6 none → (∃ L, L ≤ 800 ∧ M6 66 1 = Int32.ofNat L) → mc_WP (162, 46, [.ref 65, .ref q, .ref a1, .null, .null, .null], [.int x3], (M6, J, rf_w r, sh_w N, n), (0, 0)) Q := fun M6 x3 k6 hpf c6 l6 => by
    obtain ⟨L, l1, l2⟩ := l6
    obtain ⟨⟨e, e1, e2⟩, e3⟩ := c6
    have d6 : cd_is (mc_up M6 65 4 0) 68 (2 ^ m) (lz_0 (2 ^ m)) := cd_cg d5 (by rw [up_ne (by decide), k6 _ (by decide) (by decide) (by decide)]) (by rw [up_ne (by decide), k6 _ (by decide) (by decide) (by decide)]) (by rw [up_ne (by decide), k6 _ (by decide) (by decide) (by decide)]) (by rw [up_ne (by decide), k6 _ (by decide) (by decide) (by decide)]) (by rw [up_ne (by decide), k6 _ (by decide) (by decide) (by decide)])
    refine bk_162_46 hq hF (mc_inl ?_)
    refine cc_tcd fr16.2 (wk_0 fr16.2) d6 (by rw [up_ne (by decide)]; exact l2) l1 (b := 0) up_at (by decide) (by rw [up_ne (by decide)]; exact e3) fun M7 x k7 c7 => ?_
    have f7 : ∀ b, (b < 65 ∨ 75 ≤ b) → M7 b = M5 b := fun b z => by rw [k7.1 b (by omega) (by omega), up_ne (by omega), k6 b (by omega) (by omega) (by omega)]
    have g7 : ∀ k, ¬ k = 4 → M7 65 k = M5 65 k := fun k z => by rw [k7.2.1 k z, up_nk z, k6 65 (by decide) (by decide) (by decide)]
    have h7 : M7 74 1 = Int32.ofNat e := by rw [k7.2.2, up_ne (by decide)]; exact e1
    refine bk_162_56 hq hF ⟨fun _ => endn M7 (fun b z _ => f7 b z) g7 (Or.inr ⟨e, h7, e2⟩) hpf, fun _ => mc_inl (bk_165_0 hF (mc_inl ?_))⟩
    refine cc_order3 hF (by rw [f7 a1 (by omega)]; exact e54) (by rw [f7 a1 (by omega)]; exact e55) w1.2.2.1.2 w1.2.2.2.2 (by rw [f7 a1 (by omega), e59]; exact h9) (fun a z1 z2 => by rw [f7 a (by omega), q5 a (by omega) (by omega) (by omega)]; exact hK a z1 z2) fun M8 k8 _ => bk_165_8 hF ?_
    have r8 : mc_WP (162, 71, [.ref 65, .ref q, .ref a1, .int x3, .null, .null], [.int 0], (M8, J, rf_w r, sh_w N, n), (0, 0)) Q := bk_162_71 hq hF ⟨fun _ => endn M8 (fun b z _ => by rw [k8 b (by omega)]; exact f7 b z) (fun k z => by rw [k8 65 (by decide)]; exact g7 k z) (Or.inr ⟨e, by rw [k8 74 (by decide)]; exact h7, e2⟩) hpf, fun z => absurd rfl z⟩
    refine bk_165_14 hF ⟨fun _ => r8, fun _ => ⟨fun _ => r8, fun z => absurd (by rw [k8 74 (by decide)]; exact c7) z⟩⟩
  refine cc_blks hB b5 c5 (fun M6 x k6 hbs c6 l6 => dead M6 x k6 ?_ c6 l6) (fun M6 segs z k6 hbs c6 d6 l6 => ?_)
  · by_cases hC : pf_C B a
    · rw [if_pos hC] at hbs
      have hbs' : bk_s B (a + 6 + 3 * pf_n B a) = none := hbs
      refine pf_1 ?_
      cases hp : pf_d B a with
      | none => rfl
      | some p =>
        obtain ⟨P, z⟩ := p
        have hm4 : B.2 (a + 5 + 3 * pf_n B a) ≤ 4 := hC.2.2.2.2.2.2
        exact absurd hbs' (pd_all h8 (p2_16 hm4) hp).2.2.2
    · exact pf_0 hC
  · by_cases hC : pf_C B a
    · rw [if_pos hC] at hbs c5
      have hbs' : bk_s B (a + 6 + 3 * pf_n B a) = some (segs, z) := hbs
      obtain ⟨hC4, hC5, hC6, hC7, hC8⟩ := id hC
      obtain ⟨xv1, xv2, xv3, xv4⟩ := x1 hC4
      have xv5 := s7v hC
      have s6 : co_S B (cn_b (fl_b v5)) (if fl_o v5 then tk_S B 0 15 (tk_S B 1 8 (tk_S B 1 8 (tk_S B 0 7 (tk_S B 0 7 (some a))))) else none) = some (a + 5 + 3 * pf_n B a) := by
        rw [xv5, if_pos hC6, ch_4, if_pos hC4, tkS_some hC5]
        exact coS_some hC7
      have xm : m = B.2 (a + 5 + 3 * pf_n B a) := x4 _ s6 hC8
      have xcol := x3 (a + 5) (by rw [xv5, if_pos hC6, ch_4, if_pos hC4, tkS_some hC5]) (by rw [xv5]; exact hC7)
      have hpd : pf_d B a = pd_f B (2 ^ m) (v3 * v4) (a + 6 + 3 * pf_n B a) := by unfold pf_d; rw [xm, xv3, xv4]
      have sgb : ∀ t v' a', ∀ segs z, bk_n B t v' a' = some (segs, z) → ∀ y ∈ segs.flatten, y < 256 := by
        intro t
        induction t with
        | zero => intro v' a' segs z hh; cases hh
        | succ t ih =>
          intro v' a' segs z hh y hy
          by_cases q1 : v' = 0
          · subst q1
            rw [bkn_0] at hh
            have := (Prod.mk.inj (Option.some.inj hh)).1
            rw [← this] at hy
            simp at hy
          · by_cases q2 : a' + v' < B.1
            · rw [bkn_s q1 q2] at hh
              cases hr : bk_n B t (B.2 (a' + v')) (a' + v' + 1) with
              | none => rw [hr] at hh; cases hh
              | some p =>
                rw [hr] at hh
                have := (Prod.mk.inj (Option.some.inj hh)).1
                rw [← this, List.flatten_cons] at hy
                rcases List.mem_append.mp hy with y1 | y1
                · unfold sg_b at y1
                  obtain ⟨i, _, e⟩ := List.mem_map.mp y1
                  rw [← e]; exact hB.2 _
                · exact ih _ _ p.1 p.2 hr y y1
            · rw [bkn_n q1 q2] at hh; cases hh
      have hD : ∀ y ∈ segs.flatten, y < 256 := by
        intro y hy
        unfold bk_s at hbs'
        split at hbs'
        · exact sgb _ _ _ _ _ hbs' y hy
        · cases hbs'
      have hat0 := atD_0 h8 hbs'
      have hbs0 := bsD_0 hat0
      -- the first code
      refine bk_162_46 hq hF (mc_inl ?_)
      generalize hM7 : mc_up M6 65 4 0 = M7
      have k7 : ∀ b, ¬ b = 65 → M7 b = M6 b := fun b z => by rw [← hM7, up_ne z]
      have d7 : cd_is M7 68 (2 ^ m) (lz_0 (2 ^ m)) := cd_cg d5 (by rw [k7 _ (by decide), k6 _ (by decide) (by decide) (by decide)]) (by rw [k7 _ (by decide), k6 _ (by decide) (by decide) (by decide)]) (by rw [k7 _ (by decide), k6 _ (by decide) (by decide) (by decide)]) (by rw [k7 _ (by decide), k6 _ (by decide) (by decide) (by decide)]) (by rw [k7 _ (by decide), k6 _ (by decide) (by decide) (by decide)])
      have h7 : hd_is M7 segs.flatten := by unfold hd_is; rw [k7 66 (by decide), k7 67 (by decide)]; exact d6
      have f7 : ∀ b, (b < 65 ∨ 75 ≤ b) → M7 b = M5 b := fun b z => by rw [k7 b (by omega), k6 b (by omega) (by omega) (by omega)]
      have g7 : ∀ k, ¬ k = 4 → M7 65 k = M5 65 k := fun k z => by rw [← hM7, up_nk z, k6 65 (by decide) (by decide) (by decide)]
      have c7 : (M7 74 1 = Int32.ofNat z ∧ z ≤ B.1) ∧ M7 74 2 = 1 := by rw [k7 74 (by decide)]; exact c6
      refine cc_tcode fr16.2 (wk_0 fr16.2) d7 hB h7 hD l6 (b := 0) (by rw [← hM7, up_at]; rfl) hbs0 (fun M8 b' k8 hnone c8 _ _ => ?_) (fun M8 code st' k8 hsome e8 s8 c8 => ?_)
      · refine bk_162_56 hq hF ⟨fun _ => endn M8 (fun b z _ => by rw [k8.1 b (by omega) (by omega)]; exact f7 b z) (fun k z => by rw [k8.2.1 k z]; exact g7 k z) (Or.inr ⟨z, by rw [k8.2.2]; exact c7.1.1, c7.1.2⟩) (pf_1 (by rw [hpd]; exact pd_1 hnone)), fun z => absurd (Classical.not_not.mp z) ?_⟩
        rw [k8.1 68 (by decide) (by decide), d7.1.1, show (0 : Int32) = Int32.ofNat 0 from rfl, on_eq (by omega) (by omega)]; omega
      · obtain ⟨mu1, mu2⟩ := tc_mu (by have := gw_3 fr16.1 fr16.2 (wk_0 fr16.2); omega) (by have := gw_6 (fr := 2 ^ m) (Z := lz_0 (2 ^ m)); omega) hsome
        have w3 := gw_3 fr16.1 fr16.2 (wk_0 fr16.2)
        have w6 := gw_6 (fr := 2 ^ m) (Z := lz_0 (2 ^ m))
        have c64 : code < 64 := Nat.lt_of_lt_of_le mu2 (Nat.pow_le_pow_right (n := 2) (by decide) w6)
        have f8 : ∀ b, (b < 65 ∨ 75 ≤ b) → M8 b = M5 b := fun b z => by rw [k8.1 b (by omega) (by omega)]; exact f7 b z
        have g8 : ∀ k, ¬ k = 4 → M8 65 k = M5 65 k := fun k z => by rw [k8.2.1 k z]; exact g7 k z
        have c8' : (M8 74 1 = Int32.ofNat z ∧ z ≤ B.1) ∧ M8 74 2 = 1 := by rw [c8]; exact c7
        have d8 : cd_is M8 68 (2 ^ m) (lz_0 (2 ^ m)) := cd_cg d7 (k8.1 _ (by decide) (by decide)) (k8.1 _ (by decide) (by decide)) (k8.1 _ (by decide) (by decide)) (k8.1 _ (by decide) (by decide)) (k8.1 _ (by decide) (by decide))
        refine bk_162_56 hq hF ?_
        rw [d8.1.1, on_eq (by omega) (by omega)]
        refine ⟨fun z' => endn M8 (fun b z _ => f8 b z) g8 (Or.inr ⟨z, c8'.1.1, c8'.1.2⟩) (pf_1 (by rw [hpd]; exact pd_2 hsome z')), fun z' => mc_inl (bk_165_0 hF (mc_inl ?_))⟩
        have hcf := Classical.not_not.mp z'
        subst hcf
        refine cc_order3 hF (by rw [f8 a1 (by omega)]; exact e54) (by rw [f8 a1 (by omega)]; exact e55) w1.2.2.1.2 w1.2.2.2.2 (by rw [f8 a1 (by omega), e59]; exact h9) (fun a z1 z2 => by rw [f8 a (by omega), q5 a (by omega) (by omega) (by omega)]; exact hK a z1 z2) fun M9 k9 a9 => bk_165_8 hF ?_
        rw [f8 a1 (by omega), e59] at a9 ⊢
        generalize hA : pw_l v3 (rw_l (Int32.ofNat (v5 % 2)) v4) = A at *
        have hAl : A.length = v3 * v4 := by rw [← hA, pw_len, (rwo_ok w1.2.2.2.2 h9).1, Nat.mul_comm]
        have hmul : v3 * v4 ≤ 64 := Nat.le_trans (Nat.mul_le_mul w1.2.2.1.2 w1.2.2.2.2) (by decide)
        have hA64 : ∀ j ∈ A, j < 64 := fun j hj => by
          rw [← hA] at hj
          obtain ⟨yy, zz, y1, z1, e⟩ := pw_mem hj
          have := (rwo_ok w1.2.2.2.2 h9).2 yy y1
          omega
        have hAn : A.Nodup := by rw [← hA]; exact pw_nod w1.2.2.2.2 w1.2.2.1.2 h9
        have c9 : (M9 74 1 = Int32.ofNat z ∧ z ≤ B.1) ∧ M9 74 2 = 1 := by rw [k9 74 (by decide)]; exact c8'
        have d9 : cd_is M9 68 (2 ^ m) (lz_0 (2 ^ m)) := cd_cg d8 (k9 _ (by decide)) (k9 _ (by decide)) (k9 _ (by decide)) (k9 _ (by decide)) (k9 _ (by decide))
        have h9' : hd_is M9 segs.flatten := by unfold hd_is; rw [k9 66 (by decide), k9 67 (by decide), k8.1 66 (by decide) (by decide), k8.1 67 (by decide) (by decide)]; exact h7
        rw [hAl]
        have hmu0 : mu_f B st' < 7000 := by
          have : mu_f B ((a + 6 + 3 * pf_n B a, 0), 0, 0) ≤ 6400 := by unfold mu_f; dsimp only; omega
          omega
        have far : ∀ M' : rl_M, tq_K (a1 + 1) A M9 M' → (∀ b, (b < 65 ∨ 75 ≤ b) → ¬ b = a1 + 1 → M' b = M5 b) ∧ (∀ k, ¬ k = 4 → M' 65 k = M5 65 k) ∧ M' 74 1 = Int32.ofNat z := fun M' h => ⟨fun b z1 z2 => by rw [h.1 b (by omega) z2, k9 b (by omega)]; exact f8 b z1, fun k z => by rw [h.2.2.1 k z, k9 65 (by decide)]; exact g8 k z, by rw [h.2.2.2]; exact c9.1.1⟩
        refine cc_tloop (M := M9) (P := []) (turn := 0) hB fr16 a9 hAl hmul hAn hA64 hF h9' hD l6 7000 (0 + gw (2 ^ m) (lz_0 (2 ^ m))) st' (lz_0 (2 ^ m)) M9 _ hmu0 (by omega) (wk_0 fr16.2) (Or.inl ⟨rfl, rfl⟩) d9 ⟨fun _ _ _ => rfl, fun _ _ => rfl, fun _ _ => rfl, rfl⟩ (by rw [k9 65 (by decide)]; exact e8) s8 (fun k p hkp => absurd hkp (by simp)) (Nat.zero_le _) c9.2 (fun Ma cc P b' ka hdr pa hPl ea hb6 hat h1b ca => ?_) (fun Ma ka hdr _ => ?_)
        · obtain ⟨fa, ga, ta⟩ := far Ma ka
          obtain ⟨fin1, fin2⟩ := atD_fin h8 hat (by omega)
          have hpd4 := pd_4 (tot := v3 * v4) hsome hdr
          rw [← hpd] at hpd4
          refine bk_162_71 hq hF ⟨fun z => absurd z (by decide), fun _ => ?_⟩
          rw [ea, show (8 : Int32) = Int32.ofNat 8 from rfl, ← Int32.ofNat_mul]
          have lsl : ls_f segs ≤ 800 := by
            have : ∀ l : List (List Nat), ls_f l ≤ l.flatten.length := by
              intro l
              induction l with
              | nil => exact Nat.le_refl _
              | cons x l ih =>
                rw [lsf_cons, List.flatten_cons, List.length_append]
                split <;> omega
            exact Nat.le_trans (this segs) l6
          refine ⟨fun z' => endn Ma fa ga (Or.inr ⟨z, ta, c9.1.2⟩) (pf_1 ?_), fun z' => mc_inl ?_⟩
          · have hle := (on_le (by omega) (by omega)).mp z'
            rw [hpd4, if_neg fun y => ?_]
            have := fin1.mpr y
            omega
          · have hle : ¬ b' ≤ ls_f segs * 8 := fun y => z' ((on_le (by omega) (by omega)).mpr y)
            have hfi : fi_c B cc := fin1.mp (by omega)
            rw [if_pos (show cc.1 + cc.2 < B.1 ∧ B.2 (cc.1 + cc.2) = 0 from hfi), ← fin2 hfi] at hpd4
            obtain ⟨pl1, pl2, pl3, -⟩ := pd_all h8 fr16.2 (hpd ▸ hpd4)
            have hebv : pf_e B a sb = if fl_b v5 = 0 then sb else fl_b v5 := by unfold pf_e; rw [xv5]
            have ebr : 1 ≤ pf_e B a sb ∧ pf_e B a sb ≤ 4 := by
              have := flb_4 w2
              rw [hebv]
              split <;> omega
            have p16 := p2_16 ebr.2
            have a8 : Ma a1 8 = s.2.2 := by rw [fa a1 (by omega) (by omega), a5, n2 8 (by decide)]; exact f1.2.2.2.2.2.2
            have rec1 : pf_r B a s P = ((v1, v2, v3, v4), (v5 % 2, fl_b v5), s, (fun k => if k < pf_n B a then cv_f B (a + 5 + 3 * k) else 0), P) := by unfold pf_r; rw [xv1, xv2, xv3, xv4, xv5]
            have hcf : cf_is Ma a1 (pf_r B a s P) := by
              rw [rec1]
              refine ⟨⟨?_, ?_, ?_, ?_⟩, ⟨?_, ?_, a8, ?_⟩, ?_, fun k hk' => ?_, ?_, fun j hj hjA => ?_⟩
              · rw [fa a1 (by omega) (by omega), a5, n2 2 (by decide)]; exact f1.1
              · rw [fa a1 (by omega) (by omega), a5, n2 3 (by decide)]; exact f1.2.1
              · rw [fa a1 (by omega) (by omega)]; exact e54
              · rw [fa a1 (by omega) (by omega)]; exact e55
              · rw [fa a1 (by omega) (by omega), a5, n2 6 (by decide)]; exact f1.2.2.2.2.1
              · rw [fa a1 (by omega) (by omega), a5, n2 7 (by decide)]; exact f1.2.2.2.2.2.1
              · rw [fa a1 (by omega) (by omega)]; exact e59
              · rw [fa _ (by omega) (by omega)]; exact p5
              · rw [fa _ (by omega) (by omega), o5]
                show _ = if k < pf_n B a then _ else _
                have en : pf_n B a = cn_b (fl_b v5) := by unfold pf_n; rw [xv5]
                by_cases zz : k < pf_n B a
                · rw [if_pos zz]; exact xcol k (by omega)
                · rw [if_neg zz, y3 k (by omega)]; exact y2 k (by omega) hk'
              · show px_w Ma (a1 + 1) (pw_l v3 (rw_l (Int32.ofNat (v5 % 2)) v4)) P
                rw [hA]; exact pa
              · have hjA' : ¬ j ∈ A := by rw [← hA]; exact hjA
                rw [ka.2.1 j hjA', k9 _ (by omega), f8 _ (by omega)]; exact i5 j hj
            -- does it fit
            have fits : ∀ pq, is_P pq → Ma pq 1 = Int32.ofNat (2 ^ pf_e B a sb) → mc_WP (162, 115, [.ref 65, .ref q, .ref a1, .int (Int32.ofNat (ls_f segs)), .int 1, .int 1], [.ref pq, .ref a1], (Ma, J, rf_w r, sh_w N, n), (0, 0)) Q := fun pq hpq he => by
              refine bk_162_115 hq hF hF hpq (mc_inl (bk_141_0 hF ?_))
              rw [he, a8]
              have iff : (s.2.2.toInt < (Int32.ofNat (2 ^ pf_e B a sb)).toInt ∧ ∀ j, 0 ≤ j → j < 64 → (Ma (a1 + 1) j).toInt < (Int32.ofNat (2 ^ pf_e B a sb)).toInt) ↔ pf_D B a sb s P := by
                rw [on_t (by omega)]
                refine ⟨fun ⟨h1, h2⟩ => ⟨h1, fun p hp => ?_⟩, fun ⟨h1, h2⟩ => ⟨h1, fun j _ hj => ?_⟩⟩
                · obtain ⟨k, hk1, hk2⟩ := List.getElem_of_mem hp
                  obtain ⟨j, j1, j2⟩ := pa k p (by rw [List.getElem?_eq_getElem hk1, hk2])
                  rw [← j2]
                  exact h2 j (Nat.zero_le _) (hA64 j (List.mem_of_getElem? j1))
                · by_cases hjA : j ∈ A
                  · obtain ⟨k, hk1, hk2⟩ := List.getElem_of_mem hjA
                    have hkP : k < P.length := by omega
                    obtain ⟨j', j1, j2⟩ := pa k P[k] (List.getElem?_eq_getElem hkP)
                    rw [List.getElem?_eq_getElem hk1, hk2] at j1
                    cases j1
                    rw [j2]
                    exact h2 _ (List.getElem_mem hkP)
                  · rw [ka.2.1 j hjA, k9 _ (by omega), f8 _ (by omega), i5 j hj, i3_0]
                    have := Nat.two_pow_pos (pf_e B a sb)
                    omega
              refine ff_lp hF 64 0 _ (by omega) (fun h1 => ?_) (fun h1 => ?_)
              · refine bk_162_121 hq hF ⟨fun _ => hk Ma _ z ⟨fun b z0 z1 z2 => by rw [fa b z0 (by omega)]; exact q5 b z0 z1 z2, fun k z => by rw [fa q (by omega) (by omega), r5]; exact n1 k z, fun k z => by rw [ga k z]; exact t5 k⟩ (by rw [fa q (by omega) (by omega), r5]; exact m1) (by rw [fa _ (by omega) (by omega), p5, on_t (by omega)]; omega) (pf_3 hC hpd4 (iff.mp h1)) ⟨⟨ta, c9.1.2⟩, ca⟩ hcf, fun z => absurd (by decide) z⟩
              · refine bk_162_121 hq hF ⟨fun z => absurd rfl z, fun _ => endn Ma fa ga (Or.inr ⟨z, ta, c9.1.2⟩) (pf_2 hpd4 fun y => h1 (iff.mpr y))⟩
            refine bk_191_0 hq hF ?_
            have cnt2 : Ma (a1 + 2) 1 = Int32.ofNat (cn_b (fl_b v5)) := by rw [fa _ (by omega) (by omega)]; exact p5
            rw [cnt2]
            refine ⟨fun z' => ?_, fun z' => ?_⟩
            · have hz : fl_b v5 = 0 := by
                have := (on_le (m := 0) (by omega) (by omega)).mp z'
                unfold cn_b at this
                split at this
                · assumption
                · have := Nat.two_pow_pos (fl_b v5); omega
              refine fits (q + 1) (wd_R (r := r) (N := N) hq).2.2.2.2.1 ?_
              rw [fa _ (by omega) (by omega), q5 _ (by omega) (by omega) (by omega), hsh, hebv, if_pos hz]
            · have hz : ¬ fl_b v5 = 0 := fun y => z' (by rw [y]; decide)
              refine fits (a1 + 2) (wd_F (r := r) (N := N) hF).2.2.2.2.2 ?_
              rw [cnt2, hebv, if_neg hz]
              unfold cn_b
              rw [if_neg hz]
        · obtain ⟨fa, ga, ta⟩ := far Ma ka
          exact bk_162_71 hq hF ⟨fun _ => endn Ma fa ga (Or.inr ⟨z, ta, c9.1.2⟩) (pf_1 (by rw [hpd]; exact pd_3 hsome hdr)), fun z => absurd rfl z⟩
    · rw [if_neg hC] at hbs; cases hbs
end
