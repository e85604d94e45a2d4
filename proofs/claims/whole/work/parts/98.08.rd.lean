/-! read: a frame's head: the class -/
section
variable {I M M' : rl_M} {J : Nat → Nat → Int64} {r N n : Nat} {Q : mc_Q} {B : rd_B} {S : Option Nat} {a k m lo hi x y p nn q cnt a1 v : Nat} {d5 d6 d7 : Int32}
theorem cc_resz (hp : is_P p) (hc : 0 ≤ (M p 1).toInt ∧ (M p 1).toInt ≤ 16) (hn : nn ≤ 16)
    (hk : ∀ M', (∀ b, ¬ b = p → ¬ b = p + 1 → M' b = M b) → (∀ k, ¬ k = 1 → M' p k = M p k) → M' p 1 = Int32.ofNat nn → (∀ k, nn ≤ k → k < 16 → M' (p + 1) k = 0) → Q (.inl none) (M', J, rf_w r, sh_w N, n)) :
    mc_WP (mc_en 156 [.ref p, .int (Int32.ofNat nn)] (M, J, rf_w r, sh_w N, n)) Q := by
  obtain ⟨c0, g1, g2, g3, g4⟩ := on_get hc.1
  refine bk_156_0 hp ?_
  have hs : ∃ s, s ≤ nn ∧ (if Int32.ofNat nn < M p 1 then Int32.ofNat nn else M p 1) = Int32.ofNat s := by
    rw [g1]
    by_cases z : Int32.ofNat nn < Int32.ofNat c0
    · rw [if_pos z]; exact ⟨nn, Nat.le_refl _, rfl⟩
    · rw [if_neg z]
      exact ⟨c0, Nat.le_of_not_lt fun w => z ((on_lt (by omega) (by omega)).mpr w), rfl⟩
  obtain ⟨s, s1, s2⟩ := hs
  rw [s2]
  have run : ∀ d j (M1 : rl_M), j + d = 16 → (∀ b, ¬ b = p + 1 → M1 b = M b) → (∀ k, s ≤ k → k < j → M1 (p + 1) k = 0) → mc_WP (156, 9, [.ref p, .int (Int32.ofNat nn), .int (Int32.ofNat j)], [], (M1, J, rf_w r, sh_w N, n), (0, 0)) Q := by
    intro d
    induction d with
    | zero =>
      intro j M1 hj k1 r1
      have hj' : j = 16 := by omega
      subst hj'
      refine bk_156_9 hp ⟨fun _ => hk _ (fun b q1 q2 => by rw [up_ne q1]; exact k1 b q2) (fun k q => by rw [up_nk q, k1 p (by omega)]) up_at (fun k q1 q2 => by rw [up_ne (by omega)]; exact r1 k (by omega) q2), fun q => absurd (by decide) q⟩
    | succ d ih =>
      intro j M1 hj k1 r1
      refine bk_156_9 hp ⟨fun z => absurd ((on_le (k := 16) (by omega) (by omega)).mp z) (by omega), fun _ => ⟨on_vp (by omega) (by omega), ?_⟩⟩
      rw [on_n (by omega), on_1]
      refine ih (j + 1) _ (by omega) (fun b z => by rw [up_ne z]; exact k1 b z) (fun k q1 q2 => ?_)
      by_cases z : k = j
      · rw [z, up_at]
      · rw [up_nk z]; exact r1 k q1 (by omega)
  exact run (16 - s) s M (by omega) (fun _ _ => rfl) (fun k q1 q2 => by omega)
theorem ch_4 : tk_S B 1 8 (tk_S B 1 8 (tk_S B 0 7 (tk_S B 0 7 (some a)))) = if tk_v B a 0 7 ∧ tk_v B (a + 1) 0 7 ∧ tk_v B (a + 2) 1 8 ∧ tk_v B (a + 3) 1 8 then some (a + 4) else none := by
  by_cases q1 : tk_v B a 0 7
  · rw [tkS_some q1]
    by_cases q2 : tk_v B (a + 1) 0 7
    · rw [tkS_some q2]
      by_cases q3 : tk_v B (a + 2) 1 8
      · rw [tkS_some q3]
        by_cases q4 : tk_v B (a + 3) 1 8
        · rw [tkS_some q4, if_pos ⟨q1, q2, q3, q4⟩]
        · rw [tkS_none q4, if_neg fun z => q4 z.2.2.2]
      · rw [tkS_none q3, if_neg fun z => q3 z.2.2.1]; rfl
    · rw [tkS_none q2, if_neg fun z => q2 z.2.1]; rfl
  · rw [tkS_none q1, if_neg fun z => q1 z.1]; rfl
/-- place and size of a new frame -/
theorem cc_place (hB : rd_ok B) (hb : by_c M B) (hc : cur_is B M (some a)) (hq : is_R q) (hcnt : M q 4 = Int32.ofNat cnt) (hc4 : cnt < 4) (ha1 : a1 = q + 4 + 4 * cnt) (hP : 0 ≤ (M (a1 + 2) 1).toInt ∧ (M (a1 + 2) 1).toInt ≤ 16) (e5 : M 65 5 = d5) (e6 : M 65 6 = d6) (e7 : M 65 7 = d7)
    (hk : ∀ M' v1 v2 v3 v4, (∀ b, ¬ b = 74 → ¬ b = q → (b < a1 ∨ a1 + 4 ≤ b) → M' b = M b) → M' q 4 = Int32.ofNat (cnt + 1) → (∀ k, ¬ k = 4 → M' q k = M q k) → cur_is B M' (tk_S B 1 8 (tk_S B 1 8 (tk_S B 0 7 (tk_S B 0 7 (some a))))) → (v1 ≤ 7 ∧ v2 ≤ 7 ∧ (1 ≤ v3 ∧ v3 ≤ 8) ∧ 1 ≤ v4 ∧ v4 ≤ 8) → (tk_v B a 0 7 ∧ tk_v B (a + 1) 0 7 ∧ tk_v B (a + 2) 1 8 ∧ tk_v B (a + 3) 1 8 → v1 = B.2 a ∧ v2 = B.2 (a + 1) ∧ v3 = B.2 (a + 2) ∧ v4 = B.2 (a + 3)) →
      (M' a1 2 = Int32.ofNat v1 ∧ M' a1 3 = Int32.ofNat v2 ∧ M' a1 4 = Int32.ofNat v3 ∧ M' a1 5 = Int32.ofNat v4 ∧ M' a1 6 = d5 ∧ M' a1 7 = d6 ∧ M' a1 8 = d7) → (∀ k, k < 64 → M' (a1 + 1) k = 0) → M' (a1 + 2) 1 = 0 → (∀ k, k < 16 → M' (a1 + 2 + 1) k = 0) → Q (.inl (some (.ref a1))) (M', J, rf_w r, sh_w N, n)) :
    mc_WP (mc_en 163 [.ref 65, .ref q] (M, J, rf_w r, sh_w N, n)) Q := by
  have hq2 := R_lt hq
  have hF : is_F a1 := by rw [ha1]; exact is_Ff hq hc4
  have hlt := F_lt hF
  refine bk_163_0 hq (mc_inl (cc_take (lo := 0) (hi := 7) hB hb hc (by decide) (by decide) fun M1 v1 k1 c1 _ w1 e1 => ?_))
  have b1 : by_c M1 B := by_cg hb (k1 _ (by decide)) (k1 _ (by decide))
  refine bk_163_10 hq (mc_inl (cc_take (lo := 0) (hi := 7) hB b1 c1 (by decide) (by decide) fun M2 v2 k2 c2 _ w2 e2 => ?_))
  have b2 : by_c M2 B := by_cg b1 (k2 _ (by decide)) (k2 _ (by decide))
  refine bk_163_21 hq (mc_inl (cc_take (lo := 1) (hi := 8) hB b2 c2 (by decide) (by decide) fun M3 v3 k3 c3 u3 w3 e3 => ?_))
  have b3 : by_c M3 B := by_cg b2 (k3 _ (by decide)) (k3 _ (by decide))
  refine bk_163_32 hq (mc_inl (cc_take (lo := 1) (hi := 8) hB b3 c3 (by decide) (by decide) fun M4 v4 k4 c4 u4 w4 e4 => ?_))
  have k14 : cur_K M M4 := ((k1.tr k2).tr k3).tr k4
  have m4 : M4 q 4 = Int32.ofNat cnt := by rw [k14 q (by omega)]; exact hcnt
  refine bk_163_44 hq (mc_inl (bk_190_0 hq ?_))
  rw [m4, on_n (by omega), ← ha1]
  refine ⟨on_vp (by omega) hc4, mc_inl (cc_begin hF (by rw [k14 _ (by omega)]; exact hP) ?_)⟩
  refine bk_190_21 hq hF ?_
  refine bk_163_56 hq hF ?_
  generalize hM5 : fb_M M4 a1 (Int32.ofNat v1) (Int32.ofNat v2) (Int32.ofNat v3) (Int32.ofNat v4) = M5
  have f5 : ∀ b, (b < a1 ∨ a1 + 4 ≤ b) → M5 b = M4 b := fun b z => by rw [← hM5, fb_ne (by omega) (by omega) (by omega) (by omega)]
  have v5 := fb_v (I := M4) (a := a1) (x1 := Int32.ofNat v1) (x2 := Int32.ofNat v2) (x3 := Int32.ofNat v3) (x4 := Int32.ofNat v4)
  have va : M5 a1 = fb_8 M4 a1 (Int32.ofNat v1) (Int32.ofNat v2) (Int32.ofNat v3) (Int32.ofNat v4) a1 := by rw [← hM5, fb_a]
  rw [← va] at v5
  have hqa : q < a1 := by omega
  rw [f5 q (by omega), m4, on_1]
  have e65 : ∀ k, mc_up M5 q 4 (Int32.ofNat (cnt + 1)) 65 k = M 65 k := fun k => by rw [up_ne (by omega), f5 65 (by omega), k14 65 (by decide)]
  rw [up_ne (show ¬ 65 = a1 by omega), up_ne (show ¬ 65 = a1 by omega), up_ne (show ¬ 65 = a1 by omega), e65, e65, e65, e5, e6, e7]
  refine hk _ v1 v2 v3 v4 (fun b z1 z2 z3 => ?_) ?_ (fun k z => ?_) (cur_cg c4 ?_) ⟨w1, w2, ⟨u3, w3⟩, u4, w4⟩ (fun hh => ?_) ⟨?_, ?_, ?_, ?_, ?_, ?_, ?_⟩ (fun k hk' => ?_) ?_ (fun k hk' => ?_)
  · rw [up_ne (by omega), up_ne (by omega), up_ne (by omega), up_ne z2, f5 b z3, k14 b z1]
  · rw [up_ne (by omega), up_ne (by omega), up_ne (by omega), up_at]
  · rw [up_ne (by omega), up_ne (by omega), up_ne (by omega), up_nk z, f5 q (by omega), k14 q (by omega)]
  · rw [up_ne (by omega), up_ne (by omega), up_ne (by omega), up_ne (by omega), f5 74 (by omega)]
  · obtain ⟨t1, t2, t3, t4⟩ := hh
    rw [tkS_some t1] at e2
    rw [tkS_some t1, tkS_some t2] at e3
    rw [tkS_some t1, tkS_some t2, tkS_some t3] at e4
    exact ⟨e1 _ rfl t1, e2 _ rfl t2, e3 _ rfl t3, e4 _ rfl t4⟩
  · rw [up_nk (by decide), up_nk (by decide), up_nk (by decide), up_ne (by omega)]; exact v5.1
  · rw [up_nk (by decide), up_nk (by decide), up_nk (by decide), up_ne (by omega)]; exact v5.2.1
  · rw [up_nk (by decide), up_nk (by decide), up_nk (by decide), up_ne (by omega)]; exact v5.2.2.1
  · rw [up_nk (by decide), up_nk (by decide), up_nk (by decide), up_ne (by omega)]; exact v5.2.2.2.1
  · rw [up_nk (by decide), up_nk (by decide), up_at]
  · rw [up_nk (by decide), up_at]
  · rw [up_at]
  · rw [up_ne (by omega), up_ne (by omega), up_ne (by omega), up_ne (by omega), ← hM5, fb_1 hk']
  · rw [up_ne (by omega), up_ne (by omega), up_ne (by omega), up_ne (by omega), ← hM5, fb_2]
  · rw [up_ne (by omega), up_ne (by omega), up_ne (by omega), up_ne (by omega), ← hM5, fb_3 hk']
def fl_b (v : Nat) : Nat := if v / 2 % 2 = 1 then v / 4 + 1 else 0
abbrev fl_o (v : Nat) : Prop := v < 2 ∨ v / 2 % 2 = 1
theorem fl_fin : ∀ v : Fin 16, ((Int32.ofNat v.1 &&& (1 : Int32) = 0) ↔ v.1 % 2 = 0) ∧ ((Int32.ofNat v.1 &&& (2 : Int32) = 0) ↔ ¬ v.1 / 2 % 2 = 1) ∧ (Int32.ofNat v.1 ≤ 1 ↔ v.1 < 2) ∧ (2 : Int32) <<< ((Int32.ofNat v.1 >>> ((2 : Int32) &&& 31)) &&& 31) = Int32.ofNat (2 ^ (v.1 / 4 + 1)) ∧ 2 ^ (v.1 / 4 + 1) ≤ 16 := by decide +kernel
theorem flb_4 (h : v < 16) : fl_b v ≤ 4 := by unfold fl_b; split <;> omega
/-- a frame's flags -/
theorem cc_flags (hB : rd_ok B) (hb : by_c M B) (hc : cur_is B M S) (hF : is_F a1) (h0 : M (a1 + 2) 1 = 0) (hz : ∀ k, k < 16 → M (a1 + 2 + 1) k = 0)
    (hk : ∀ M' v, (∀ b, ¬ b = 74 → ¬ b = a1 → ¬ b = a1 + 2 → ¬ b = a1 + 2 + 1 → M' b = M b) → (∀ k, ¬ k = 9 → M' a1 k = M a1 k) → v < 16 → cur_is B M' (if fl_o v then tk_S B 0 15 S else none) → (∀ a, S = some a → tk_v B a 0 15 → v = B.2 a) → M' a1 9 = Int32.ofNat (v % 2) → M' (a1 + 2) 1 = Int32.ofNat (cn_b (fl_b v)) → (∀ k, cn_b (fl_b v) ≤ k → k < 16 → M' (a1 + 2 + 1) k = 0) → Q (.inl none) (M', J, rf_w r, sh_w N, n)) :
    mc_WP (mc_en 164 [.ref 65, .ref a1] (M, J, rf_w r, sh_w N, n)) Q := by
  have hlt := F_lt hF
  refine bk_164_0 hF (mc_inl (cc_take (lo := 0) (hi := 15) hB hb hc (by decide) (by decide) fun M1 v k1 c1 _ w1 e1 => ?_))
  obtain ⟨f1, f2, f3, f4, f5⟩ := fl_fin ⟨v, by omega⟩
  dsimp only at f1 f2 f3 f4 f5
  refine bk_164_10 hF ?_
  rw [f1, f2, f3, f4]
  have z3 : ∀ k, k < 16 → M1 (a1 + 2 + 1) k = 0 := fun k hk' => by rw [k1 _ (by omega)]; exact hz k hk'
  have plain : ∀ w : Int32, w = Int32.ofNat (v % 2) → ¬ v / 2 % 2 = 1 → ((v < 2 → Q (.inl none) (mc_up M1 a1 9 w, J, rf_w r, sh_w N, n)) ∧ (¬ v < 2 → Q (.inl none) (mc_up (mc_up M1 a1 9 w) 74 2 0, J, rf_w r, sh_w N, n))) := fun w hw hbit => by
    have hb0 : cn_b (fl_b v) = 0 := by unfold fl_b; rw [if_neg hbit]; rfl
    refine ⟨fun z => hk _ v (fun b q1 q2 _ _ => by rw [up_ne q2]; exact k1 b q1) (fun k q => by rw [up_nk q, k1 a1 (by omega)]) (by omega) ?_ e1 (by rw [up_at, hw]) (by rw [up_ne (by omega), k1 _ (by omega), h0, hb0]; rfl) (fun k _ q => by rw [up_ne (by omega)]; exact z3 k q), fun z => hk _ v (fun b q1 q2 _ _ => by rw [up_ne q1, up_ne q2]; exact k1 b q1) (fun k q => by rw [up_ne (by omega), up_nk q, k1 a1 (by omega)]) (by omega) ?_ e1 (by rw [up_ne (by omega), up_at, hw]) (by rw [up_ne (by omega), up_ne (by omega), k1 _ (by omega), h0, hb0]; rfl) (fun k _ q => by rw [up_ne (by omega), up_ne (by omega)]; exact z3 k q)⟩
    · rw [if_pos (Or.inl z)]
      exact cur_cg c1 (up_ne (by omega))
    · rw [if_neg (fun y => by rcases y with y | y; exact z y; exact hbit y)]
      obtain ⟨b, p1, p2, -, -⟩ := cur_pos c1
      exact ⟨⟨b, by rw [up_nk (by decide), up_ne (by omega)]; exact p1, p2⟩, up_at⟩
  have own : ∀ w : Int32, w = Int32.ofNat (v % 2) → v / 2 % 2 = 1 → mc_WP (mc_en 156 [.ref (a1 + 2), .int (Int32.ofNat (2 ^ (v / 4 + 1)))] (mc_up M1 a1 9 w, J, rf_w r, sh_w N, n)) (mc_kr (fun u t => mc_WP (164, 44, [.ref 65, .ref a1, .int (Int32.ofNat v)], u.toList ++ [], t, (0, 0)) Q) fun k t => Q (.inr k) t) := fun w hw hbit => by
    have hb0 : cn_b (fl_b v) = 2 ^ (v / 4 + 1) := by unfold fl_b; rw [if_pos hbit]; exact if_neg (by omega)
    refine cc_resz (wd_F (r := r) (N := N) hF).2.2.2.2.2 (by rw [up_ne (by omega), k1 _ (by omega), h0]; decide) f5 fun M2 k2 k3 e2 z2 => bk_164_44 hF (hk M2 v (fun b q1 q2 q3 q4 => by rw [k2 b q3 q4, up_ne q2]; exact k1 b q1) (fun k q => by rw [k2 a1 (by omega) (by omega), up_nk q, k1 a1 (by omega)]) (by omega) ?_ e1 (by rw [k2 a1 (by omega) (by omega), up_at, hw]) (by rw [e2, hb0]) (fun k q1 q2 => z2 k (by rw [hb0] at q1; exact q1) q2))
    rw [if_pos (Or.inr hbit)]
    exact cur_cg c1 (by rw [k2 74 (by omega) (by omega), up_ne (by omega)])
  have m2 : v % 2 = 0 ∨ v % 2 = 1 := by omega
  refine ⟨fun q1 => ⟨fun q2 => plain 0 (by rw [q1]; rfl) q2, fun q2 => mc_inl (own 0 (by rw [q1]; rfl) (Classical.not_not.mp q2))⟩, fun q1 => ⟨fun q2 => plain 1 (by rw [show v % 2 = 1 by omega]; rfl) q2, fun q2 => mc_inl (own 1 (by rw [show v % 2 = 1 by omega]; rfl) (Classical.not_not.mp q2))⟩⟩
end
