/-! read: the reel: pure, and the class -/
section
variable {I M M' : rl_M} {J : Nat → Nat → Int64} {r N n : Nat} {Q : mc_Q} {B : rd_B} {S : Option Nat} {a k m q cnt a1 v sb z t : Nat} {s : Nat × Nat × Int32} {R : fr_T}
abbrev se_C (B : rd_B) (a : Nat) : Prop := a + 3 ≤ B.1 ∧ (B.2 a < 4 ∨ (16 ≤ B.2 a ∧ B.2 a < 20))
def se_s (B : rd_B) (a : Nat) : Nat × Nat × Int32 := (B.2 a % 4, B.2 (a + 1), if 16 ≤ B.2 a then Int32.ofNat (B.2 (a + 2)) else -1)
noncomputable def rl_f (B : rd_B) (sb : Nat) : Nat → Nat → Nat → (Nat × Nat × Int32) → Option (List fr_T)
  | 0, _, _, _ => none
  | t + 1, a, cnt, st => if a < B.1 then (if B.2 a = 59 then (if a + 1 = B.1 then some [] else none) else if B.2 a = 33 then (if se_C B (a + 1) then rl_f B sb t (a + 4) cnt (se_s B (a + 1)) else none) else if B.2 a = 254 then (match bk_s B (a + 1) with
      | none => none
      | some (_, z) => rl_f B sb t z cnt st) else if B.2 a = 44 ∧ cnt < 4 then (match pf_f B (a + 1) sb st with
      | none => none
      | some (R, z) => (rl_f B sb t z (cnt + 1) (0, 0, -1)).map fun l => R :: l) else none) else none
theorem rl_0 (h : ¬ a < B.1) : rl_f B sb (t + 1) a cnt s = none := by unfold rl_f; rw [if_neg h]
theorem rl_59 (h : a < B.1) (h1 : B.2 a = 59) : rl_f B sb (t + 1) a cnt s = if a + 1 = B.1 then some [] else none := by unfold rl_f; rw [if_pos h, if_pos h1]
theorem rl_33 (h : a < B.1) (h1 : B.2 a = 33) : rl_f B sb (t + 1) a cnt s = if se_C B (a + 1) then rl_f B sb t (a + 4) cnt (se_s B (a + 1)) else none := by
  conv => lhs; unfold rl_f
  rw [if_pos h, if_neg (by omega), if_pos h1]
theorem rl_254 (h : a < B.1) (h1 : B.2 a = 254) : rl_f B sb (t + 1) a cnt s = match bk_s B (a + 1) with
    | none => none
    | some (_, z) => rl_f B sb t z cnt s := by
  conv => lhs; unfold rl_f
  rw [if_pos h, if_neg (by omega), if_neg (by omega), if_pos h1]
theorem rl_44 (h : a < B.1) (h1 : B.2 a = 44) (h2 : cnt < 4) : rl_f B sb (t + 1) a cnt s = match pf_f B (a + 1) sb s with
    | none => none
    | some (R, z) => (rl_f B sb t z (cnt + 1) (0, 0, -1)).map fun l => R :: l := by
  conv => lhs; unfold rl_f
  rw [if_pos h, if_neg (by omega), if_neg (by omega), if_neg (by omega), if_pos ⟨h1, h2⟩]
theorem rl_x (h : a < B.1) (h1 : ¬ B.2 a = 59) (h2 : ¬ B.2 a = 33) (h3 : ¬ B.2 a = 254) (h4 : ¬ (B.2 a = 44 ∧ cnt < 4)) : rl_f B sb (t + 1) a cnt s = none := by
  conv => lhs; unfold rl_f
  rw [if_pos h, if_neg h1, if_neg h2, if_neg h3, if_neg h4]
abbrev hd_C (B : rd_B) : Prop := tk_v B 0 80 80 ∧ tk_v B 1 49 49 ∧ tk_v B 2 1 8 ∧ tk_v B 3 1 8 ∧ tk_v B 4 0 3 ∧ 5 + 3 * 2 ^ (B.2 4 + 1) ≤ B.1
theorem bks_le (hB : B.1 ≤ 800) : ∀ t v a segs z, bk_n B t v a = some (segs, z) → a ≤ B.1 → a ≤ z ∧ z ≤ B.1
  | 0, _, _, _, _, h, _ => by cases h
  | t + 1, v, a, segs, z, h, ha => by
    by_cases q1 : v = 0
    · subst q1
      rw [bkn_0] at h
      have := (Prod.mk.inj (Option.some.inj h)).2
      omega
    · by_cases q2 : a + v < B.1
      · rw [bkn_s q1 q2] at h
        cases hr : bk_n B t (B.2 (a + v)) (a + v + 1) with
        | none => rw [hr] at h; cases h
        | some p =>
          rw [hr] at h
          have := (Prod.mk.inj (Option.some.inj h)).2
          have := bks_le hB t _ _ p.1 p.2 hr (by omega)
          omega
      · rw [bkn_n q1 q2] at h; cases h
theorem bks_z (hB : B.1 ≤ 800) {segs : List (List Nat)} (h : bk_s B a = some (segs, z)) : a < z ∧ z ≤ B.1 := by
  unfold bk_s at h
  split at h
  · have := bks_le hB _ _ _ _ _ h (by omega)
    omega
  · cases h
theorem drop_k (hB : B.1 ≤ 800) {fr tot : Nat} : ∀ t st Z P cc P', dr_f B fr tot t st Z P = some (cc, P') → st.1.1 ≤ cc.1 := by
  intro t
  induction t with
  | zero => intro st Z P cc P' h; cases h
  | succ t ih =>
    intro st Z P cc P' h
    have tcm : ∀ w code s1, tc_f B w st = some (code, s1) → st.1.1 ≤ s1.1.1 := fun w code s1 h => by
      unfold tc_f at h
      split at h
      · obtain ⟨_, e⟩ := Prod.mk.inj (Option.some.inj h)
        rw [← e]; exact Nat.le_refl _
      · cases hn : nb_f B st.1 with
        | none => rw [hn] at h; cases h
        | some p =>
          obtain ⟨y, c'⟩ := p
          rw [hn] at h
          obtain ⟨_, e⟩ := Prod.mk.inj (Option.some.inj h)
          rw [← e]
          have := nb_at hn
          show st.1.1 ≤ c'.1
          omega
    cases htc : tc_f B (gw fr Z) st with
    | none => rw [dr_n htc] at h; cases h
    | some p =>
      obtain ⟨code, s1⟩ := p
      have g := tcm _ _ _ htc
      by_cases q1 : code = fr + 1
      · subst q1
        rw [dr_e htc] at h
        split at h
        · obtain ⟨e1, _⟩ := Prod.mk.inj (Option.some.inj h)
          rw [← e1]; exact g
        · cases h
      · by_cases q2 : code = fr
        · subst q2
          rw [dr_r htc] at h
          exact Nat.le_trans g (ih _ _ _ _ _ h)
        · by_cases q3 : al_c fr Z code
          · rw [dr_c htc q1 q2 q3] at h
            split at h
            · exact Nat.le_trans g (ih _ _ _ _ _ h)
            · cases h
          · rw [dr_x htc q1 q2 q3] at h; cases h
theorem pf_z (hB : rd_ok B) (h : pf_f B a sb s = some (R, z)) : a < z ∧ z ≤ B.1 ∧ ∃ P, pf_C B a ∧ pf_d B a = some (P, z) ∧ pf_D B a sb s P ∧ R = pf_r B a s P := by
  by_cases hC : pf_C B a
  · cases hd : pf_d B a with
    | none => rw [pf_1 hd] at h; cases h
    | some p =>
      obtain ⟨P, z'⟩ := p
      by_cases hD : pf_D B a sb s P
      · rw [pf_3 hC hd hD] at h
        obtain ⟨e1, e2⟩ := Prod.mk.inj (Option.some.inj h)
        subst e2
        have hm4 : B.2 (a + 5 + 3 * pf_n B a) ≤ 4 := hC.2.2.2.2.2.2
        have := pd_all hB.1 (p2_16 hm4) hd
        refine ⟨?_, this.2.2.1, P, hC, rfl, hD, e1.symm⟩
        have hd' := hd
        unfold pf_d at hd'
        generalize 2 ^ B.2 (a + 5 + 3 * pf_n B a) = fr at hd'
        cases htc : tc_f B (gw fr (lz_0 fr)) ((a + 6 + 3 * pf_n B a, 0), 0, 0) with
        | none => rw [pd_1 htc] at hd'; cases hd'
        | some p =>
          obtain ⟨code, s1⟩ := p
          have g : a + 6 + 3 * pf_n B a ≤ s1.1.1 := by
            unfold tc_f at htc
            split at htc
            · obtain ⟨_, e⟩ := Prod.mk.inj (Option.some.inj htc)
              rw [← e]; exact Nat.le_refl _
            · cases hn : nb_f B (a + 6 + 3 * pf_n B a, 0) with
              | none => rw [hn] at htc; cases htc
              | some p =>
                obtain ⟨y, c'⟩ := p
                rw [hn] at htc
                obtain ⟨_, e⟩ := Prod.mk.inj (Option.some.inj htc)
                rw [← e]
                have := (nb_at hn).2.1
                show a + 6 + 3 * pf_n B a ≤ c'.1
                have : a + 6 + 3 * pf_n B a < c'.1 := this
                omega
          by_cases q : code = fr
          · subst q
            cases hdr : dr_f B code (B.2 (a + 2) * B.2 (a + 3)) 7000 s1 (lz_0 code) [] with
            | none => rw [pd_3 htc hdr] at hd'; cases hd'
            | some p =>
              obtain ⟨cc, P'⟩ := p
              rw [pd_4 htc hdr] at hd'
              have g2 := drop_k hB.1 _ _ _ _ _ _ hdr
              split at hd'
              · obtain ⟨_, e⟩ := Prod.mk.inj (Option.some.inj hd')
                omega
              · cases hd'
          · rw [pd_2 htc q] at hd'; cases hd'
      · rw [pf_2 hd hD] at h; cases h
  · rw [pf_0 hC] at h; cases h
theorem cf_cg (h : cf_is M a1 R) (e0 : M' a1 = M a1) (e1 : M' (a1 + 1) = M (a1 + 1)) (e2 : M' (a1 + 2) = M (a1 + 2)) (e3 : M' (a1 + 2 + 1) = M (a1 + 2 + 1)) : cf_is M' a1 R := by
  unfold cf_is px_w at *
  rw [e0, e1, e2, e3]
  exact h
/-- settings -/
theorem cc_sets (hB : rd_ok B) (hb : by_c M B) (hc : cur_is B M (some a))
    (hk : ∀ M', (∀ b, ¬ b = 74 → ¬ b = 65 → M' b = M b) → (∀ k, ¬ k = 5 → ¬ k = 6 → ¬ k = 7 → M' 65 k = M 65 k) → cur_is B M' (if se_C B a then some (a + 3) else none) → (se_C B a → M' 65 5 = Int32.ofNat (se_s B a).1 ∧ M' 65 6 = Int32.ofNat (se_s B a).2.1 ∧ M' 65 7 = (se_s B a).2.2) → Q (.inl none) (M', J, rf_w r, sh_w N, n)) :
    mc_WP (mc_en 161 [.ref 65] (M, J, rf_w r, sh_w N, n)) Q := by
  have h8 := hB.1
  refine bk_161_0 (mc_inl (cc_take0 hB hb hc fun M1 v k1 c1 w1 x1 => ?_))
  have b1 : by_c M1 B := by_cg hb (k1 _ (by decide)) (k1 _ (by decide))
  have t : ∀ b, b < B.1 → tk_S B 0 255 (some b) = some (b + 1) := fun b hb => tkS_some ⟨hb, by omega, by have := hB.2 b; omega⟩
  have t' : ∀ b, ¬ b < B.1 → tk_S B 0 255 (some b) = none := fun b hb => tkS_none fun z => hb z.1
  have okv : (v < 4 ∨ (16 ≤ v ∧ v < 20)) ∨ ¬ (v < 4 ∨ (16 ≤ v ∧ v < 20)) := Classical.em _
  -- the rest, with the disposal set down
  have rest : ∀ (M2 : rl_M) (hasC d5 : Int32) (S2 : Option Nat), (hasC = 0 ↔ v < 16) → (∀ b, ¬ b = 74 → ¬ b = 65 → M2 b = M b) → (∀ k, ¬ k = 5 → M2 65 k = M 65 k) → M2 65 5 = d5 → cur_is B M2 S2 → S2 = (if v < 4 ∨ (16 ≤ v ∧ v < 20) then tk_S B 0 255 (some a) else none) → ((v < 4 ∨ (16 ≤ v ∧ v < 20)) → d5 = Int32.ofNat (v % 4)) → mc_WP (mc_en 137 [.ref 74] (M2, J, rf_w r, sh_w N, n)) (mc_kr (fun u t => mc_WP (161, 59, [.ref 65, .int (Int32.ofNat v), .int hasC, .null], u.toList ++ [.ref 65], t, (0, 0)) Q) fun k t => Q (.inr k) t) := fun M2 hasC d5 S2 hC k2 n2 e5 c2 hS2 hd5 => by
    have b2 : by_c M2 B := by_cg hb (k2 _ (by decide) (by decide)) (k2 _ (by decide) (by decide))
    refine cc_take0 hB b2 c2 fun M3 v2 k3 c3 w3 x3 => bk_161_59 (mc_inl ?_)
    have b3 : by_c (mc_up M3 65 6 (Int32.ofNat v2)) B := by_cg b2 (by rw [up_ne (by decide), k3 _ (by decide)]) (by rw [up_ne (by decide), k3 _ (by decide)])
    refine cc_take0 hB b3 (cur_cg c3 (up_ne (by decide))) fun M4 v3 k4 c4 w4 x4 => ?_
    have fin : ∀ d7 : Int32, (v < 4 ∨ (16 ≤ v ∧ v < 20) → d7 = if 16 ≤ v then Int32.ofNat v3 else -1) → Q (.inl none) (mc_up M4 65 7 d7, J, rf_w r, sh_w N, n) := fun d7 hd7 => by
      have e65 : ∀ k, ¬ k = 7 → ¬ k = 6 → mc_up M4 65 7 d7 65 k = M2 65 k := fun k z1 z2 => by rw [up_nk z1, k4 65 (by decide), up_nk z2, k3 65 (by decide)]
      refine hk _ (fun b z1 z2 => by rw [up_ne z2, k4 b z1, up_ne z2, k3 b z1]; exact k2 b z1 z2) (fun k z1 z2 z3 => by rw [e65 k z3 z2]; exact n2 k z1) ?_ (fun hC => ?_)
      · refine cur_cg (S := if se_C B a then some (a + 3) else none) (M := M4) ?_ (up_ne (by decide))
        have : tk_S B 0 255 (tk_S B 0 255 S2) = if se_C B a then some (a + 3) else none := by
          rw [hS2]
          by_cases q : a < B.1
          · rw [x1 a rfl q]
            by_cases q2 : B.2 a < 4 ∨ (16 ≤ B.2 a ∧ B.2 a < 20)
            · rw [if_pos q2, t a q]
              by_cases q3 : a + 1 < B.1
              · rw [t _ q3]
                by_cases q4 : a + 1 + 1 < B.1
                · rw [t _ q4, if_pos ⟨by omega, q2⟩]
                · rw [t' _ q4, if_neg fun z => by have := z.1; omega]
              · rw [t' _ q3, if_neg fun z => by have := z.1; omega]; rfl
            · rw [if_neg q2, if_neg fun z => q2 z.2]; rfl
          · rw [t' _ q, if_neg (show ¬ se_C B a from fun z => by have := z.1; omega)]
            split <;> rfl
        rw [← this]; exact c4
      · obtain ⟨g1, g2⟩ := hC
        have ev := x1 a rfl (by omega)
        rw [← ev] at g2
        rw [if_pos g2, t a (by omega)] at hS2
        have ev2 := x3 _ hS2 (by omega)
        rw [hS2, t _ (by omega)] at x4
        have ev3 := x4 _ rfl (by omega)
        unfold se_s
        dsimp only
        refine ⟨?_, ?_, ?_⟩
        · rw [e65 5 (by decide) (by decide), e5, hd5 g2, ev]
        · rw [up_nk (by decide), k4 65 (by decide), up_at, ev2]
        · rw [up_at, hd7 g2, ← ev, ev3]
    refine bk_161_69 ⟨fun z => fin (-1) fun _ => by rw [if_neg (by have := hC.mp z; omega)], fun z => fin (Int32.ofNat v3) fun _ => by rw [if_pos (by have hh : ¬ v < 16 := fun y => z (hC.mpr y); omega)]⟩
  obtain ⟨e, p1, p2, -, -⟩ := cur_pos c1
  refine bk_161_7 ⟨fun q1 => ?_, fun q1 => ?_⟩
  · have hv := (on_lt (m := 16) (by omega) (by omega)).mp q1
    refine ⟨fun q2 => mc_inl ?_, fun q2 => mc_inl ?_⟩
    · have hv3 := (on_le (m := 3) (by omega) (by omega)).mp q2
      exact rest _ 0 (Int32.ofNat v) _ ⟨fun _ => hv, fun _ => rfl⟩ (fun b z1 z2 => by rw [up_ne z2]; exact k1 b z1) (fun k z => by rw [up_nk z, k1 65 (by decide)]) up_at (cur_cg c1 (up_ne (by decide))) (by rw [if_pos (Or.inl (by omega))]) (fun _ => by rw [Nat.mod_eq_of_lt (by omega)])
    · have hv3 : ¬ v ≤ 3 := fun z => q2 ((on_le (m := 3) (by omega) (by omega)).mpr z)
      exact rest _ 0 (Int32.ofNat v) none ⟨fun _ => hv, fun _ => rfl⟩ (fun b z1 z2 => by rw [up_ne z1, up_ne z2]; exact k1 b z1) (fun k z => by rw [up_ne (by decide), up_nk z, k1 65 (by decide)]) (by rw [up_ne (by decide), up_at]) ⟨⟨e, by rw [up_nk (by decide), up_ne (by decide)]; exact p1, p2⟩, up_at⟩ (by rw [if_neg (by omega)]) (fun z => by omega)
  · have hv : 16 ≤ v := Nat.le_of_not_lt fun z => q1 ((on_lt (m := 16) (by omega) (by omega)).mpr z)
    rw [show (16 : Int32) = Int32.ofNat 16 from rfl, on_sub hv]
    refine ⟨fun q2 => mc_inl ?_, fun q2 => mc_inl ?_⟩
    · have hv3 := (on_le (m := 3) (by omega) (by omega)).mp q2
      exact rest _ 1 (Int32.ofNat (v - 16)) _ ⟨fun z => absurd z (by decide), fun z => by omega⟩ (fun b z1 z2 => by rw [up_ne z2]; exact k1 b z1) (fun k z => by rw [up_nk z, k1 65 (by decide)]) up_at (cur_cg c1 (up_ne (by decide))) (by rw [if_pos (Or.inr (by omega))]) (fun _ => by congr 1; omega)
    · have hv3 : ¬ v - 16 ≤ 3 := fun z => q2 ((on_le (m := 3) (by omega) (by omega)).mpr z)
      exact rest _ 1 (Int32.ofNat (v - 16)) none ⟨fun z => absurd z (by decide), fun z => by omega⟩ (fun b z1 z2 => by rw [up_ne z1, up_ne z2]; exact k1 b z1) (fun k z => by rw [up_ne (by decide), up_nk z, k1 65 (by decide)]) (by rw [up_ne (by decide), up_at]) ⟨⟨e, by rw [up_nk (by decide), up_ne (by decide)]; exact p1, p2⟩, up_at⟩ (by rw [if_neg (by omega)]) (fun z => by omega)
end
