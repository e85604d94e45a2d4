/-! read: the reel: the reference -/
section
variable {I M M' : rl_M} {J : Nat → Nat → Int64} {r N n : Nat} {Q : mc_Q} {B : rd_B} {S : Option Nat} {a k m b c v w t cnt sb z f : Nat} {s : Nat × Nat × Int32} {R : fr_T}
def tr_K (M M' : rl_M) : Prop := (∀ b, ¬ b = 84 → ¬ b = 88 → ¬ b = 89 → ¬ b = 90 → (b < 95 ∨ 100 ≤ b) → M' b = M b) ∧ (∀ k, k < 18 → ¬ k = 5 → M' 84 k = M 84 k) ∧ ∀ k, k < 9 → ¬ (2 ≤ k ∧ k ≤ 4) → M' 88 k = M 88 k
theorem tr_K.tr {M2 : rl_M} (h : tr_K M M') (h2 : tr_K M' M2) : tr_K M M2 := ⟨fun b q1 q2 q3 q4 q5 => (h2.1 b q1 q2 q3 q4 q5).trans (h.1 b q1 q2 q3 q4 q5), fun k q1 q2 => (h2.2.1 k q1 q2).trans (h.2.1 k q1 q2), fun k q1 q2 => (h2.2.2 k q1 q2).trans (h.2.2 k q1 q2)⟩
theorem tr_mg (h : mg_K f M M') : tr_K M M' := ⟨h.1, h.2.1, fun k q1 _ => h.2.2.1 k (by omega)⟩
theorem tr_by (h : tr_K M M') (hb : by_m M B) : by_m M' B := by_mg hb (h.2.1 10 (by decide) (by decide)) (h.1 91 (by decide) (by decide) (by decide) (by decide) (by decide))
theorem pf_64 (hB : rd_ok B) (h : pf_f B a sb s = some (R, z)) : ∀ q ∈ cf_A R, q < 64 := fun q hq => by
  obtain ⟨-, -, P, hC, -, -, e⟩ := pf_z hB h
  subst e
  obtain ⟨⟨h1, h2, h3, h4⟩, h5, -⟩ := hC
  have h3' : 1 ≤ B.2 (a + 2) ∧ B.2 (a + 2) ≤ 8 := ⟨h3.2.1, h3.2.2⟩
  have h4' : 1 ≤ B.2 (a + 3) ∧ B.2 (a + 3) ≤ 8 := ⟨h4.2.1, h4.2.2⟩
  have hq' : q ∈ pw_l (B.2 (a + 2)) (rw_l (Int32.ofNat (B.2 (a + 4) % 2)) (B.2 (a + 3))) := hq
  have h9 : Int32.ofNat (B.2 (a + 4) % 2) = 0 ∨ Int32.ofNat (B.2 (a + 4) % 2) = 1 := by
    rcases (show B.2 (a + 4) % 2 = 0 ∨ B.2 (a + 4) % 2 = 1 by omega) with y | y <;> rw [y]
    · exact Or.inl rfl
    · exact Or.inr rfl
  obtain ⟨yy, zz, y1, z1, e⟩ := pw_mem hq'
  have := (rwo_ok h4'.2 h9).2 yy y1
  omega
theorem rf_cg (h : rf_is M f R) (h64 : ∀ q ∈ cf_A R, q < 64) (hf : f < cnt) (hK : mg_K cnt M M') : rf_is M' f R := by
  obtain ⟨⟨a1, a2, a3, a4⟩, ⟨a5, a6, a7, a8, a9⟩, a10, a11⟩ := h
  have e : ∀ k, k < 9 → M' 88 (9 * (f + 1) + k) = M 88 (9 * (f + 1) + k) := fun k hk => hK.2.2.1 _ (by omega)
  have e0 : M' 88 (9 * (f + 1)) = M 88 (9 * (f + 1)) := e 0 (by decide)
  refine ⟨⟨by rw [e0]; exact a1, by rw [e 1 (by decide)]; exact a2, by rw [e 2 (by decide)]; exact a3, by rw [e 3 (by decide)]; exact a4⟩, ⟨by rw [e 4 (by decide)]; exact a5, by rw [e 5 (by decide)]; exact a6, by rw [e 6 (by decide)]; exact a7, by rw [e 7 (by decide)]; exact a8, by rw [e 8 (by decide)]; exact a9⟩, fun k hk => by rw [hK.2.2.2.1 _ (by omega)]; exact a10 k hk, fun k p hp => ?_⟩
  obtain ⟨q, g1, g2⟩ := a11 k p hp
  have := h64 q (List.mem_of_getElem? g1)
  exact ⟨q, g1, by rw [hK.2.2.2.2 _ (by omega)]; exact g2⟩
theorem an_3 : ∀ v : Fin 20, (Int32.ofNat v.1 &&& (3 : Int32)) = Int32.ofNat (v.1 % 4) := by decide
def tr_is (B : rd_B) (M : rl_M) (Rs : List fr_T) : Prop := (M 88 2 = Int32.ofNat (B.2 2) ∧ M 88 3 = Int32.ofNat (B.2 3) ∧ M 88 4 = Int32.ofNat (B.2 4 + 1)) ∧ M 84 5 = Int32.ofNat Rs.length ∧ (∀ k, k < 16 → M 89 k = if k < 2 ^ (B.2 4 + 1) then cv_f B (5 + 3 * k) else 0) ∧ ∀ f R, Rs[f]? = some R → rf_is M f R
/-- settings: the reference -/
theorem cm_sets {x1 x2 x3 x4 x5 : Int32} {z6 z7 : Value} (hB : rd_ok B) (hb : by_m M B) (hg : gd_is M (some a)) (ha : a ≤ B.1)
    (hk : ∀ M' d1 d2 d3 (z6 z7 : Value), gt_K M M' → gd_is M' (if se_C B a then some (a + 3) else none) → (se_C B a → d1 = Int32.ofNat (se_s B a).1 ∧ d2 = Int32.ofNat (se_s B a).2.1 ∧ d3 = (se_s B a).2.2) → mc_WP (103, 276, [.ref 84, .int d1, .int d2, .int d3, .int x4, .int x5, z6, z7], [], (M', J, rf_w r, sh_w N, n), (0, 0)) Q) :
    mc_WP (mc_en 95 [.ref 84, .int 0, .int 19] (M, J, rf_w r, sh_w N, n)) (mc_kr (fun u t => mc_WP (103, 152, [.ref 84, .int x1, .int x2, .int x3, .int x4, .int x5, z6, z7], u.toList ++ [], t, (0, 0)) Q) fun k t => Q (.inr k) t) := by
  have h8 := hB.1
  have t0 : ∀ b, b < B.1 → tk_S B 0 255 (some b) = some (b + 1) := fun b hb => tkS_some ⟨hb, by omega, by have := hB.2 b; omega⟩
  have t' : ∀ b, ¬ b < B.1 → tk_S B 0 255 (some b) = none := fun b hb => tkS_none fun z => hb z.1
  refine cm_take (lo := 0) (hi := 19) hB hb hg (fun b h => by cases h; omega) (by decide) (by decide) fun M1 v k1 g1 _ w1 e1 _ => ?_
  -- the rest
  have rest : ∀ (gd : Int32) (S : Option Nat), (gd = 0 ∨ gd = 1) → gd_is (mc_up M1 84 22 gd) S → sm_S S → S = (if v < 4 ∨ 16 ≤ v then tk_S B 0 19 (some a) else none) → mc_WP (103, 180, [.ref 84, .int x1, .int x2, .int x3, .int x4, .int x5, .int (Int32.ofNat v), z7], [.int gd, .ref 84], (M1, J, rf_w r, sh_w N, n), (0, 0)) Q := fun gd S hgd g2 sm2 hS => by
    have k2 : gt_K M (mc_up M1 84 22 gd) := k1.tr ⟨fun b q => up_ne q, fun k _ q => up_nk q⟩
    refine bk_103_180 ⟨hgd, mc_inl ?_⟩
    rw [an_3 ⟨v, by omega⟩]
    refine cm_take (lo := 0) (hi := 255) hB (gt_by k2 hb) g2 sm2 (by decide) (by decide) fun M2 v2 k3 g3 _ w2 e2 _ => bk_103_196 (mc_inl ?_)
    refine cm_take (lo := 0) (hi := 255) hB (gt_by (k2.tr k3) hb) g3 (sm_tk hB) (by decide) (by decide) fun M3 v3 k4 g4 _ w3 e3 _ => ?_
    have k14 := (k2.tr k3).tr k4
    have hS4 : tk_S B 0 255 (tk_S B 0 255 S) = if se_C B a then some (a + 3) else none := by
      rw [hS]
      by_cases q : tk_v B a 0 19
      · rw [e1 a rfl q, tkS_some q]
        by_cases q2 : B.2 a < 4 ∨ 16 ≤ B.2 a
        · rw [if_pos q2]
          by_cases q3 : a + 1 < B.1
          · rw [t0 _ q3]
            by_cases q4 : a + 1 + 1 < B.1
            · rw [t0 _ q4, if_pos ⟨by omega, by have := q.2.2; omega⟩]
            · rw [t' _ q4, if_neg fun y => by have := y.1; omega]
          · rw [t' _ q3, if_neg fun y => by have := y.1; omega]; rfl
        · rw [if_neg q2, if_neg (show ¬ se_C B a from fun y => by have := y.2; omega)]; rfl
      · rw [tkS_none q, if_neg (show ¬ se_C B a from fun y => q ⟨by have := y.1; omega, by omega, by have := y.2; omega⟩)]
        split <;> rfl
    rw [hS4] at g4
    have val : se_C B a → v = B.2 a ∧ v2 = B.2 (a + 1) ∧ v3 = B.2 (a + 2) := fun hC => by
      have hq : tk_v B a 0 19 := ⟨by have := hC.1; omega, by omega, by have := hC.2; omega⟩
      have ev := e1 a rfl hq
      have h1 : a + 3 ≤ B.1 := hC.1
      have hS1 : S = some (a + 1) := by rw [hS, tkS_some hq, if_pos (by rw [ev]; have := hC.2; omega)]
      have ev2 := e2 _ hS1 ⟨by omega, by omega, by have := hB.2 (a + 1); omega⟩
      rw [hS1, t0 _ (by omega)] at e3
      exact ⟨ev, ev2, e3 _ rfl ⟨by omega, by omega, by have := hB.2 (a + 2); omega⟩⟩
    have fin : ∀ d3 : Int32, (se_C B a → d3 = (se_s B a).2.2) → mc_WP (103, 220, [.ref 84, .int (Int32.ofNat (v % 4)), .int (Int32.ofNat v2), .int x3, .int x4, .int x5, .int (Int32.ofNat v), .int (Int32.ofNat v3)], [.int d3], (M3, J, rf_w r, sh_w N, n), (0, 0)) Q := fun d3 hd3 => bk_103_220 (hk M3 _ _ _ _ _ k14 g4 fun hC => by
      obtain ⟨u1, u2, u3⟩ := val hC
      refine ⟨?_, ?_, hd3 hC⟩
      · unfold se_s; rw [u1]
      · unfold se_s; rw [u2])
    refine bk_103_205 ⟨fun q => fin (-1) fun hC => ?_, fun q => fin (Int32.ofNat v3) fun hC => ?_⟩
    · have := (on_le (m := 15) (by omega) (by omega)).mp q
      obtain ⟨u1, u2, u3⟩ := val hC
      unfold se_s
      dsimp only
      rw [if_neg (by omega)]
    · have hh : ¬ v ≤ 15 := fun y => q ((on_le (m := 15) (by omega) (by omega)).mpr y)
      obtain ⟨u1, u2, u3⟩ := val hC
      unfold se_s
      dsimp only
      rw [if_pos (by omega), u3]
  refine bk_103_152 ?_
  have l4 : (Int32.ofNat v < 4) ↔ v < 4 := on_lt (m := 4) (by omega) (by omega)
  have l15 : (Int32.ofNat v ≤ 15) ↔ v ≤ 15 := on_le (m := 15) (by omega) (by omega)
  rw [l4, l15]
  have keep : ¬ M1 84 22 = 0 → gd_is (mc_up M1 84 22 1) (tk_S B 0 19 (some a)) := fun h => by
    refine gd_cg g1 (up_nk (by decide)) ?_
    rw [up_at]
    cases hq : tk_S B 0 19 (some a) with
    | none => rw [hq] at g1; exact absurd g1 h
    | some b => rw [hq] at g1; exact g1.2.symm
  have smn : sm_S none := fun b h => nomatch h
  refine ⟨fun q => bk_103_179 (rest 0 none (Or.inl rfl) up_at smn ?_), fun q => ⟨fun q2 => bk_103_175 (rest 1 _ (Or.inr rfl) (keep q) (sm_tk hB) (by rw [if_pos (Or.inl q2)])), fun q2 => ⟨fun q3 => bk_103_179 (rest 0 none (Or.inl rfl) up_at smn (by rw [if_neg (by omega)])), fun q3 => bk_103_175 (rest 1 _ (Or.inr rfl) (keep q) (sm_tk hB) (by rw [if_pos (Or.inr (by omega))]))⟩⟩⟩
  cases hq : tk_S B 0 19 (some a) with
  | none => split <;> rfl
  | some b =>
    rw [hq] at g1
    exact absurd (g1.2.symm.trans q) (by decide)
theorem cm_treel (hB : rd_ok B) (hb : by_m M B)
    (hn : ∀ M', tr_K M M' → (¬ hd_C B ∨ rl_f B (B.2 4 + 1) 900 (5 + 3 * 2 ^ (B.2 4 + 1)) 0 (0, 0, -1) = none) → M' 84 22 = 0 → Q (.inl none) (M', J, rf_w r, sh_w N, n))
    (hk : ∀ M' Rs, tr_K M M' → hd_C B → rl_f B (B.2 4 + 1) 900 (5 + 3 * 2 ^ (B.2 4 + 1)) 0 (0, 0, -1) = some Rs → tr_is B M' Rs → M' 84 22 = 1 → Q (.inl none) (M', J, rf_w r, sh_w N, n)) :
    mc_WP (mc_en 103 [.ref 84] (M, J, rf_w r, sh_w N, n)) Q := by
  have h8 := hB.1
  have sh88 : sh_w N 88 = (2, 45) := rfl
  refine bk_103_0 (mc_inl ?_)
  generalize hM0 : mc_up (mc_up (mc_up M 84 21 0) 84 22 1) 84 5 0 = M0
  have K0 : tr_K M M0 := ⟨fun b q _ _ _ _ => by rw [← hM0, up_ne q, up_ne q, up_ne q], fun k q1 q2 => by rw [← hM0, up_nk q2, up_nk (by omega), up_nk (by omega)], fun k _ _ => by rw [← hM0, up_ne (by decide), up_ne (by decide), up_ne (by decide)]⟩
  have n0 : M0 84 5 = 0 := by rw [← hM0, up_at]
  have g0 : gd_is M0 (some 0) := ⟨by rw [← hM0, up_nk (by decide), up_nk (by decide), up_at]; rfl, by rw [← hM0, up_nk (by decide), up_at]⟩
  have tg : ∀ {M M' : rl_M}, gt_K M M' → tr_K M M' := fun h => ⟨fun b q _ _ _ _ => h.1 b q, fun k q _ => h.2 k (by omega) (by omega), fun k _ _ => by rw [h.1 88 (by decide)]⟩
  have t8 : ∀ {M : rl_M} {k : Nat} {v : Int32}, (2 ≤ k ∧ k ≤ 4) → tr_K M (mc_up M 88 k v) := fun hk => ⟨fun b _ q _ _ _ => up_ne q, fun k _ _ => by rw [up_ne (by decide)], fun k _ q => up_nk (by omega)⟩
  have sm0 : sm_S (some 0) := fun b h => by cases h; omega
  refine cm_take (lo := 80) (hi := 80) hB (tr_by K0 hb) g0 sm0 (by decide) (by decide) fun M1 v1 k1 g1 _ w1 e1 _ => bk_103_23 (mc_inl ?_)
  have K1 := K0.tr (tg k1)
  refine cm_take (lo := 49) (hi := 49) hB (tr_by K1 hb) g1 (sm_tk hB) (by decide) (by decide) fun M2 v2 k2 g2 _ w2 e2 _ => bk_103_32 (mc_inl ?_)
  have K2 := K1.tr (tg k2)
  refine cm_take (lo := 1) (hi := 8) hB (tr_by K2 hb) g2 (sm_tk hB) (by decide) (by decide) fun M3 w k3 g3 _ w3 e3 _ => bk_103_45 sh88 (by decide) ⟨by unfold vp_in; decide, mc_inl ?_⟩
  have K3 : tr_K M (mc_up M3 88 (2 : Int32).toNatClampNeg (Int32.ofNat w)) := (K2.tr (tg k3)).tr (t8 (by decide))
  refine cm_take (lo := 1) (hi := 8) hB (tr_by K3 hb) (gd_cg g3 (by rw [up_ne (by decide)]) (by rw [up_ne (by decide)])) (sm_tk hB) (by decide) (by decide) fun M4 h k4 g4 _ w4 e4 _ => bk_103_58 sh88 (by decide) ⟨by unfold vp_in; decide, mc_inl ?_⟩
  have K4 : tr_K M (mc_up M4 88 (3 : Int32).toNatClampNeg (Int32.ofNat h)) := (K3.tr (tg k4)).tr (t8 (by decide))
  refine cm_take (lo := 0) (hi := 3) hB (tr_by K4 hb) (gd_cg g4 (by rw [up_ne (by decide)]) (by rw [up_ne (by decide)])) (sm_tk hB) (by decide) (by decide) fun M5 v k5 g5 _ w5 e5 _ => bk_103_71 sh88 (by decide) ⟨by unfold vp_in; decide, mc_inl ?_⟩
  have o1v : (1 : Int32) + Int32.ofNat v = Int32.ofNat (v + 1) := by rw [show (1 : Int32) = Int32.ofNat 1 from rfl, on_ad, Nat.add_comm]
  rw [o1v]
  generalize hM6 : mc_up M5 88 (4 : Int32).toNatClampNeg (Int32.ofNat (v + 1)) = M6
  have K6 : tr_K M M6 := by rw [← hM6]; exact (K4.tr (tg k5)).tr (t8 (by decide))
  have r6 : M6 88 2 = Int32.ofNat w ∧ M6 88 3 = Int32.ofNat h ∧ M6 88 4 = Int32.ofNat (v + 1) := by
    rw [← hM6]
    refine ⟨?_, ?_, up_at⟩
    · rw [up_nk (by decide), k5.1 88 (by decide), up_nk (by decide), k4.1 88 (by decide)]; exact up_at
    · rw [up_nk (by decide), k5.1 88 (by decide)]; exact up_at
  have n6 : M6 84 5 = 0 := by
    rw [← hM6, up_ne (by decide), k5.2 5 (by decide) (by decide), up_ne (by decide), k4.2 5 (by decide) (by decide), up_ne (by decide), k3.2 5 (by decide) (by decide), k2.2 5 (by decide) (by decide), k1.2 5 (by decide) (by decide)]
    exact n0
  have p16 : 2 ^ (v + 1) ≤ 16 := p2_16 (by omega)
  have owg : ow_g (-1 : Int32) = 0 := rfl
  have g6 : gd_is M6 (tk_S B 0 3 (tk_S B 1 8 (tk_S B 1 8 (tk_S B 49 49 (tk_S B 80 80 (some 0)))))) := gd_cg g5 (by rw [← hM6, up_ne (by decide)]) (by rw [← hM6, up_ne (by decide)])
  refine cm_colours (x1 := -1) (m := 2 ^ (v + 1)) (by decide) (by rw [owg]; show (1 : Int32) <<< (M6 88 4 &&& 31) = _; rw [r6.2.2]; exact (sh_2 (i := v + 1) (by omega)).1) p16 hB (tr_by K6 hb) g6 (sm_tk hB) (fun b hb' => by obtain ⟨c, _, u2, u3⟩ := tkS_inv hb'; have := u2.1; omega) fun M7 k7 g7 x7 => bk_103_78 ?_
  rw [owg] at k7 x7
  have K7 : tr_K M M7 := K6.tr ⟨fun b q1 _ q2 _ _ => k7.1 b q1 q2, fun k q _ => k7.2.1 k (by omega) (by omega), fun k _ _ => by rw [k7.1 88 (by decide) (by decide)]⟩
  have hS5 : co_S B (2 ^ (v + 1)) (tk_S B 0 3 (tk_S B 1 8 (tk_S B 1 8 (tk_S B 49 49 (tk_S B 80 80 (some 0)))))) = if hd_C B then some (5 + 3 * 2 ^ (B.2 4 + 1)) else none := by
    rw [ch_5]
    by_cases q1 : tk_v B 0 80 80 ∧ tk_v B 1 49 49 ∧ tk_v B 2 1 8 ∧ tk_v B 3 1 8 ∧ tk_v B 4 0 3
    · obtain ⟨t1, t2, t3, t4, t5⟩ := id q1
      rw [tkS_some t1, tkS_some t2, tkS_some t3, tkS_some t4] at e5
      have ev : v = B.2 4 := e5 _ rfl t5
      rw [if_pos q1, ev]
      by_cases q2 : 5 + 3 * 2 ^ (B.2 4 + 1) ≤ B.1
      · rw [coS_some q2, if_pos ⟨t1, t2, t3, t4, t5, q2⟩]
      · rw [coS_none q2, if_neg fun z => q2 z.2.2.2.2.2]
    · rw [if_neg q1, if_neg fun z => q1 ⟨z.1, z.2.1, z.2.2.1, z.2.2.2.1, z.2.2.2.2.1⟩]; rfl
  rw [hS5] at g7
  -- the end
  have dead : ∀ (M8 : rl_M) (x1 x2 x3 x4 : Int32) (z5 z6 z7 : Value), tr_K M M8 → M8 84 22 = 0 → (¬ hd_C B ∨ rl_f B (B.2 4 + 1) 900 (5 + 3 * 2 ^ (B.2 4 + 1)) 0 (0, 0, -1) = none) → mc_WP (103, 87, [.ref 84, .int x1, .int x2, .int x3, .int x4, z5, z6, z7], [], (M8, J, rf_w r, sh_w N, n), (0, 0)) Q := fun M8 x1 x2 x3 x4 z5 z6 z7 K8 g8 hbad =>
    bk_103_87 ⟨fun _ => bk_103_279 ⟨fun _ => bk_103_302 (bk_103_303 ⟨Or.inl rfl, hn _ (K8.tr (tr_mg (f := 0) mg_22)) hbad up_at⟩), fun q => absurd g8 q⟩, fun q => absurd g8 q⟩
  by_cases hC : hd_C B
  · rw [if_pos hC] at g7
    obtain ⟨t1, t2, t3, t4, t5, t6⟩ := id hC
    rw [tkS_some t1, tkS_some t2] at e3
    rw [tkS_some t1, tkS_some t2, tkS_some t3] at e4
    rw [tkS_some t1, tkS_some t2, tkS_some t3, tkS_some t4] at e5
    have ew := e3 _ rfl t3
    have eh := e4 _ rfl t4
    have ev := e5 _ rfl t5
    subst ew eh ev
    have sb4 : B.2 4 + 1 ≤ 4 := by have := t5.2.2; omega
    have col7 := x7 5 (by rw [ch_5, if_pos ⟨t1, t2, t3, t4, t5⟩]) t6
    have own : ∀ M8 : rl_M, (∀ k, k < 9 → M8 88 k = M7 88 k) → (∀ k, k < 16 → M8 89 k = M7 89 k) → (M8 88 2 = Int32.ofNat (B.2 2) ∧ M8 88 3 = Int32.ofNat (B.2 3) ∧ M8 88 4 = Int32.ofNat (B.2 4 + 1)) ∧ ∀ k, k < 16 → M8 89 k = if k < 2 ^ (B.2 4 + 1) then cv_f B (5 + 3 * k) else 0 := fun M8 h1 h2 => by
      refine ⟨⟨?_, ?_, ?_⟩, fun k hk' => ?_⟩
      · rw [h1 2 (by decide), k7.1 88 (by decide) (by decide)]; exact r6.1
      · rw [h1 3 (by decide), k7.1 88 (by decide) (by decide)]; exact r6.2.1
      · rw [h1 4 (by decide), k7.1 88 (by decide) (by decide)]; exact r6.2.2
      · rw [h2 k hk']
        have := col7 k hk'
        rw [Nat.mul_zero, Nat.zero_add] at this
        exact this
    have run : ∀ t a (s : Nat × Nat × Int32) (Rs0 : List fr_T) (M8 : rl_M) (z5 z6 z7 : Value), a ≤ B.1 → B.1 < a + t → Rs0.length ≤ 4 → (s.1 ≤ 3 ∧ s.2.1 ≤ 255 ∧ -1 ≤ s.2.2.toInt) → tr_K M M8 → gd_is M8 (some a) → (∀ k, k < 9 → M8 88 k = M7 88 k) → (∀ k, k < 16 → M8 89 k = M7 89 k) → M8 84 5 = Int32.ofNat Rs0.length → (∀ f R, Rs0[f]? = some R → rf_is M8 f R ∧ ∀ q ∈ cf_A R, q < 64) →
        (∀ M', tr_K M M' → rl_f B (B.2 4 + 1) t a Rs0.length s = none → M' 84 22 = 0 → Q (.inl none) (M', J, rf_w r, sh_w N, n)) →
        (∀ M' Rs, tr_K M M' → rl_f B (B.2 4 + 1) t a Rs0.length s = some Rs → tr_is B M' (Rs0 ++ Rs) → M' 84 22 = 1 → Q (.inl none) (M', J, rf_w r, sh_w N, n)) →
        mc_WP (103, 87, [.ref 84, .int (Int32.ofNat s.1), .int (Int32.ofNat s.2.1), .int s.2.2, .int 0, z5, z6, z7], [], (M8, J, rf_w r, sh_w N, n), (0, 0)) Q := by
      intro t
      induction t with
      | zero => intro a s Rs0 M8 z5 z6 z7 h1 h2; omega
      | succ t ih =>
        intro a s Rs0 M8 z5 z6 z7 ha hf hl hs K8 g8 q8 o8 n8 f8 hn' hk'
        -- wrong
        have bad : ∀ (M9 : rl_M) (x1 x2 x3 x4 : Int32) (z5 z6 z7 : Value), tr_K M M9 → M9 84 22 = 0 → rl_f B (B.2 4 + 1) (t + 1) a Rs0.length s = none → mc_WP (103, 87, [.ref 84, .int x1, .int x2, .int x3, .int x4, z5, z6, z7], [], (M9, J, rf_w r, sh_w N, n), (0, 0)) Q := fun M9 x1 x2 x3 x4 z5 z6 z7 K9 g9 hrl =>
          bk_103_87 ⟨fun _ => bk_103_279 ⟨fun _ => bk_103_302 (bk_103_303 ⟨Or.inl rfl, hn' _ (K9.tr (tr_mg (f := 0) mg_22)) hrl up_at⟩), fun q => absurd g9 q⟩, fun q => absurd g9 q⟩
        refine bk_103_87 ⟨fun q => absurd (g8.2.symm.trans q) (by decide), fun _ => ⟨fun q => absurd rfl q, fun _ => mc_inl ?_⟩⟩
        refine cm_take (lo := 0) (hi := 255) hB (tr_by K8 hb) g8 (fun b h => by cases h; omega) (by decide) (by decide) fun M9 y k9 g9 _ w9 e9 y9 => bk_103_107 ?_
        have K9 := K8.tr (tg k9)
        have n9 : M9 84 5 = Int32.ofNat Rs0.length := by rw [k9.2 5 (by decide) (by decide)]; exact n8
        by_cases hab : a < B.1
        · have ht : tk_v B a 0 255 := ⟨hab, by omega, by have := hB.2 a; omega⟩
          have ey := e9 a rfl ht
          subst ey
          rw [tkS_some ht] at g9
          rw [show (59 : Int32) = Int32.ofNat 59 from rfl, on_eq (by omega) (by omega)]
          -- none of the marks
          have other : ∀ x1 x2 x3 : Int32, ∀ z6 z7 : Value, rl_f B (B.2 4 + 1) (t + 1) a Rs0.length s = none → mc_WP (103, 255, [.ref 84, .int x1, .int x2, .int x3, .int 0, .int (Int32.ofNat (B.2 a)), z6, z7], [], (M9, J, rf_w r, sh_w N, n), (0, 0)) Q := fun x1 x2 x3 z6 z7 hrl =>
            bk_103_255 ⟨fun q => absurd (g9.2.symm.trans q) (by decide), fun _ => ⟨fun _ => bk_103_272 (bk_103_273 ⟨Or.inl rfl, bk_103_276 (bad _ _ _ _ _ _ _ _ (K9.tr (tr_mg (f := 0) mg_22)) up_at hrl)⟩), fun q => absurd rfl q⟩⟩
          refine ⟨fun y1 => ?_, fun y1 => ?_⟩
          · refine bk_103_121 ?_
            rw [show (254 : Int32) = Int32.ofNat 254 from rfl, show (33 : Int32) = Int32.ofNat 33 from rfl, show (44 : Int32) = Int32.ofNat 44 from rfl, on_eq (by omega) (by omega), on_eq (by omega) (by omega), on_eq (by omega) (by omega), n9]
            refine ⟨fun y2 => ⟨fun y3 => ⟨fun y4 => other _ _ _ _ _ (rl_x hab y1 y3 y2 fun z => y4 z.1), fun y4 => ⟨fun y5 => ?_, fun y5 => mc_inl ?_⟩⟩, fun y3 => mc_inl ?_⟩, fun y2 => mc_inl ?_⟩
            · have := (on_le (k := 4) (by omega) (by omega)).mp y5
              exact other _ _ _ _ _ (rl_x hab y1 y3 y2 fun z => by have := z.2; omega)
            · have hc4 : Rs0.length < 4 := Nat.lt_of_not_le fun z => y5 ((on_le (k := 4) (by omega) (by omega)).mpr z)
              have h44 := Classical.not_not.mp y4
              have hrl := rl_44 (sb := B.2 4 + 1) (t := t) (s := s) hab h44 hc4
              refine cm_tframe (sb := B.2 4 + 1) hB (tr_by K9 hb) g9 (by omega) n9 hc4 (by omega) (by rw [k9.1 88 (by decide)]; exact (own M8 q8 o8).1.2.2) hs (fun Ma Ka na hpf ga => bk_103_246 (bk_103_276 ?_)) (fun Ma R z Ka na hpf ga ra => bk_103_246 (bk_103_276 ?_))
              · exact bad Ma _ _ _ _ _ _ _ (K9.tr (tr_mg Ka)) ga (by rw [hrl, hpf])
              · obtain ⟨z1', z2', -⟩ := pf_z hB hpf
                have hlen : (Rs0 ++ [R]).length = Rs0.length + 1 := by rw [List.length_append]; rfl
                refine ih z (0, 0, -1) (Rs0 ++ [R]) Ma _ _ _ z2' (by omega) (by omega) (by decide) (K9.tr (tr_mg Ka)) ga (fun k hk1 => by rw [Ka.2.2.1 k (by omega), k9.1 88 (by decide)]; exact q8 k hk1) (fun k hk1 => by rw [Ka.2.2.2.1 k (by omega), k9.1 89 (by decide)]; exact o8 k hk1) (by rw [hlen]; exact na) (fun f R' hfR => ?_) (fun M' h1 h2 => hn' M' h1 ?_) (fun M' Rs h1 h2 h3 => hk' M' (R :: Rs) h1 ?_ ?_)
                · by_cases zz : f < Rs0.length
                  · rw [List.getElem?_append_left zz] at hfR
                    obtain ⟨u1, u2⟩ := f8 f R' hfR
                    have u3 : rf_is M9 f R' := by
                      unfold rf_is at u1 ⊢
                      rw [k9.1 88 (by decide), k9.1 89 (by decide), k9.1 90 (by decide)]
                      exact u1
                    exact ⟨rf_cg u3 u2 zz Ka, u2⟩
                  · have hlt' := (List.getElem?_eq_some_iff.mp hfR).1
                    have hfe : f = Rs0.length := by omega
                    subst hfe
                    rw [List.getElem?_append_right (Nat.le_refl _), Nat.sub_self] at hfR
                    cases hfR
                    exact ⟨ra, pf_64 hB hpf⟩
                · rw [hlen] at h2
                  rw [hrl, hpf]
                  show Option.map _ _ = _
                  rw [h2]; rfl
                · rw [hlen] at h2
                  rw [hrl, hpf]
                  show Option.map _ _ = _
                  rw [h2]; rfl
                · rw [List.append_assoc] at h3; exact h3
            · have h33 := Classical.not_not.mp y3
              have hrl := rl_33 (sb := B.2 4 + 1) (t := t) (cnt := Rs0.length) (s := s) hab h33
              refine cm_sets hB (tr_by K9 hb) g9 (by omega) fun Ma d1 d2 d3 z6 z7 ka ga xa => bk_103_276 ?_
              have Ka := K9.tr (tg ka)
              by_cases hsc : se_C B (a + 1)
              · rw [if_pos hsc] at hrl ga
                obtain ⟨u1, u2, u3⟩ := xa hsc
                rw [u1, u2, u3]
                refine ih (a + 4) (se_s B (a + 1)) Rs0 Ma _ _ _ (by have := hsc.1; omega) (by omega) hl ?_ Ka ga (fun k hk1 => by rw [ka.1 88 (by decide), k9.1 88 (by decide)]; exact q8 k hk1) (fun k hk1 => by rw [ka.1 89 (by decide), k9.1 89 (by decide)]; exact o8 k hk1) (by rw [ka.2 5 (by decide) (by decide)]; exact n9) (fun f R' hfR => ?_) (fun M' h1 h2 => hn' M' h1 (hrl.trans h2)) (fun M' Rs h1 h2 => hk' M' Rs h1 (hrl.trans h2))
                · unfold se_s
                  dsimp only
                  have b2 := hB.2 (a + 1 + 1)
                  have b3 := hB.2 (a + 1 + 2)
                  refine ⟨by omega, by omega, ?_⟩
                  split
                  · rw [on_t (by omega)]; omega
                  · decide
                · obtain ⟨u1, u2⟩ := f8 f R' hfR
                  refine ⟨?_, u2⟩
                  unfold rf_is at u1 ⊢
                  rw [ka.1 88 (by decide), ka.1 89 (by decide), ka.1 90 (by decide), k9.1 88 (by decide), k9.1 89 (by decide), k9.1 90 (by decide)]
                  exact u1
              · rw [if_neg hsc] at hrl ga
                exact bad Ma _ _ _ _ _ _ _ Ka ga hrl
            · have h254 := Classical.not_not.mp y2
              have hrl := rl_254 (sb := B.2 4 + 1) (t := t) (cnt := Rs0.length) (s := s) hab h254
              refine cm_comment hB (tr_by K9 hb) g9 (by omega) fun Ma ka ga => bk_103_135 (bk_103_276 ?_)
              have Ka := K9.tr (tg ka)
              cases hbs : bk_s B (a + 1) with
              | none =>
                rw [hbs] at hrl ga
                exact bad Ma _ _ _ _ _ _ _ Ka ga hrl
              | some p =>
                obtain ⟨segs, z⟩ := p
                rw [hbs] at hrl ga
                obtain ⟨z1', z2'⟩ := bks_z h8 hbs
                refine ih z s Rs0 Ma _ _ _ z2' (by omega) hl hs Ka ga (fun k hk1 => by rw [ka.1 88 (by decide), k9.1 88 (by decide)]; exact q8 k hk1) (fun k hk1 => by rw [ka.1 89 (by decide), k9.1 89 (by decide)]; exact o8 k hk1) (by rw [ka.2 5 (by decide) (by decide)]; exact n9) (fun f R' hfR => ?_) (fun M' h1 h2 => hn' M' h1 (hrl.trans h2)) (fun M' Rs h1 h2 => hk' M' Rs h1 (hrl.trans h2))
                obtain ⟨u1, u2⟩ := f8 f R' hfR
                refine ⟨?_, u2⟩
                unfold rf_is at u1 ⊢
                rw [ka.1 88 (by decide), ka.1 89 (by decide), ka.1 90 (by decide), k9.1 88 (by decide), k9.1 89 (by decide), k9.1 90 (by decide)]
                exact u1
          · -- the end's mark
            have h59 := Classical.not_not.mp y1
            have hrl := rl_59 (sb := B.2 4 + 1) (t := t) (cnt := Rs0.length) (s := s) hab h59
            refine bk_103_121 ?_
            rw [h59]
            refine ⟨fun _ => ⟨fun _ => ⟨fun _ => ?_, fun q => absurd (by decide) q⟩, fun q => absurd (by decide) q⟩, fun q => absurd (by decide) q⟩
            refine bk_103_255 ⟨fun q => absurd (g9.2.symm.trans q) (by decide), fun _ => ⟨fun q => absurd q (by decide), fun _ => bk_103_273 ⟨Or.inr rfl, bk_103_276 ?_⟩⟩⟩
            have g22 : mc_up M9 84 22 1 84 22 = 1 := up_at
            refine bk_103_87 ⟨fun q => absurd (g22.symm.trans q) (by decide), fun _ => ⟨fun _ => ?_, fun q => absurd (by decide) q⟩⟩
            refine bk_103_279 ⟨fun q => absurd (g22.symm.trans q) (by decide), fun _ => ?_⟩
            have e10 : mc_up M9 84 22 1 84 10 = Int32.ofNat B.1 := by rw [up_nk (by decide)]; exact (tr_by K9 hb).1
            have e21 : mc_up M9 84 22 1 84 21 = Int32.ofNat (a + 1) := by rw [up_nk (by decide)]; exact g9.1
            rw [e10, e21, on_eq (by omega) (by omega)]
            generalize hMa : mc_up M9 84 22 1 = Ma
            have Ka : tr_K M Ma := by rw [← hMa]; exact K9.tr (tr_mg (f := 0) mg_22)
            refine ⟨fun q => bk_103_302 (bk_103_303 ⟨Or.inl rfl, hn' _ (Ka.tr (tr_mg (f := 0) mg_22)) (by rw [hrl, if_neg q]) up_at⟩), fun q => bk_103_303 ⟨Or.inr rfl, ?_⟩⟩
            have hq := Classical.not_not.mp q
            have r88 : ∀ b, ¬ b = 84 → mc_up Ma 84 22 1 b = M8 b := fun b z => by rw [up_ne z, ← hMa, up_ne z, k9.1 b z]
            refine hk' _ [] (Ka.tr (tr_mg (f := 0) mg_22)) (by rw [hrl, if_pos hq]) ?_ up_at
            rw [List.append_nil]
            have ow := own (mc_up Ma 84 22 1) (fun k hk1 => by rw [r88 88 (by decide)]; exact q8 k hk1) (fun k hk1 => by rw [r88 89 (by decide)]; exact o8 k hk1)
            refine ⟨ow.1, ?_, ow.2, fun f R' hfR => ?_⟩
            · rw [up_nk (by decide), ← hMa, up_nk (by decide)]; exact n9
            · have u1 := (f8 f R' hfR).1
              unfold rf_is at u1 ⊢
              rw [r88 88 (by decide), r88 89 (by decide), r88 90 (by decide)]
              exact u1
        · have hnt : ¬ tk_v B a 0 255 := fun z => hab z.1
          rw [tkS_none hnt] at g9
          rw [y9 (tkS_none hnt)]
          have hrl := rl_0 (sb := B.2 4 + 1) (t := t) (cnt := Rs0.length) (s := s) hab
          refine ⟨fun _ => ?_, fun q => absurd (by decide) q⟩
          refine bk_103_121 ⟨fun _ => ⟨fun _ => ⟨fun _ => ?_, fun q => absurd (by decide) q⟩, fun q => absurd (by decide) q⟩, fun q => absurd (by decide) q⟩
          have g9' : M9 84 22 = 0 := g9
          exact bk_103_255 ⟨fun _ => bk_103_272 (bk_103_273 ⟨Or.inl rfl, bk_103_276 (bad _ _ _ _ _ _ _ _ (K9.tr (tr_mg (f := 0) mg_22)) up_at hrl)⟩), fun q => absurd g9' q⟩
    exact run 900 (5 + 3 * 2 ^ (B.2 4 + 1)) (0, 0, -1) [] M7 _ _ _ t6 (by omega) (by decide) (by decide) K7 g7 (fun _ _ => rfl) (fun _ _ => rfl) (by rw [k7.2.1 5 (by decide) (by decide)]; exact n6) (fun f R h => absurd h (by simp)) (fun M' h1 h2 h3 => hn M' h1 (Or.inr h2) h3) (fun M' Rs h1 h2 h3 h4 => hk M' Rs h1 hC h2 h3 h4)
  · rw [if_neg hC] at g7
    exact dead M7 _ _ _ _ _ _ _ K7 g7 (Or.inl hC)
end
