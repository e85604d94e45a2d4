/-! read: the class's blocks -/
section
variable {I M M' : rl_M} {J : Nat → Nat → Int64} {r N n : Nat} {Q : mc_Q} {B : rd_B} {S : Option Nat} {a k m L v s : Nat} {D : List Nat} {x2 x4 : Int32}
def hd_is (M : rl_M) (D : List Nat) : Prop := M 66 1 = Int32.ofNat D.length ∧ ∀ k y, D[k]? = some y → M 67 k = Int32.ofNat y
def hb_K (M M' : rl_M) : Prop := ∀ b, ¬ b = 74 → ¬ b = 66 → ¬ b = 67 → M' b = M b
theorem hb_K.tr {M2 : rl_M} (h : hb_K M M') (h2 : hb_K M' M2) : hb_K M M2 := fun b q1 q2 q3 => (h2 b q1 q2 q3).trans (h b q1 q2 q3)
theorem hb_by (h : hb_K M M') (hb : by_c M B) : by_c M' B := by_cg hb (h 54 (by decide) (by decide) (by decide)) (h 55 (by decide) (by decide) (by decide))
/-- one byte of a block -/
theorem cc_bl1 (hB : rd_ok B) (hb : by_c M B) (hc : cur_is B M S) (hL : M 66 1 = Int32.ofNat L) (hL8 : L ≤ 800) (hs : k < s) (hs2 : s < 256)
    (hk : ∀ M' v, hb_K M M' → cur_is B M' (tk_S B 0 255 S) → v < 256 → (∀ a, S = some a → a < B.1 → v = B.2 a) → (M' 66 1 = Int32.ofNat (if L < 800 then L + 1 else L)) → (L < 800 → ∀ j, M' 67 j = if j = L then Int32.ofNat v else M 67 j) → mc_WP (139, 35, [.ref 74, .ref 66, .int x2, .int (Int32.ofNat s), .int x4, .int (Int32.ofNat (k + 1))], [], (M', J, rf_w r, sh_w N, n), (0, 0)) Q) :
    mc_WP (139, 35, [.ref 74, .ref 66, .int x2, .int (Int32.ofNat s), .int x4, .int (Int32.ofNat k)], [], (M, J, rf_w r, sh_w N, n), (0, 0)) Q := by
  obtain ⟨a, p1, p2, p3, p4⟩ := cur_pos hc
  obtain ⟨b1, b2⟩ := hb
  have hv := hB.2 a
  have h8 := hB.1
  refine bk_139_35 (by decide) ⟨fun q => absurd ((on_le (by omega) (by omega)).mp q) (by omega), fun _ => ?_⟩
  rw [p1, b1, on_n (by omega), on_1 (k := a), on_1 (k := k), show (sh_w N (66 + 1)).2 = 800 from rfl, show wd_cap 66 = 800 from rfl, show (66 + 1 : Nat) = 67 from rfl]
  refine ⟨fun q => ?_, fun q => ?_⟩
  · have ha := (on_lt (by omega) (by omega)).mp q
    rw [b2 a ha, up_ne (show ¬ 66 = 74 by decide), up_ne (show ¬ 66 = 67 by decide), up_ne (show ¬ 66 = 74 by decide), hL, on_n (by omega), on_1 (k := L)]
    have cu : ∀ M' : rl_M, M' 74 1 = Int32.ofNat (a + 1) → M' 74 2 = M 74 2 → cur_is B M' (tk_S B 0 255 S) := fun M' e1 e2 => by
      rcases p4 with q | q
      · rw [q.1]
        exact ⟨⟨a + 1, e1, by omega⟩, e2.trans q.2⟩
      · rw [q.1, tkS_some ⟨ha, by omega, by omega⟩]
        exact ⟨⟨e1, by omega⟩, e2.trans q.2⟩
    refine ⟨on_vp (by omega) (by omega), fun q1 => ?_, fun q1 => ?_⟩
    · have := (on_le (k := 800) (by omega) (by omega)).mp q1
      exact hk _ (B.2 a) (fun b z _ _ => up_ne z) (cu _ up_at (up_nk (by decide))) hv (fun b hb _ => by rw [p3 b hb]) (by rw [up_ne (by decide), if_neg (by omega)]; exact hL) (fun z => by omega)
    · have hlt : L < 800 := Nat.lt_of_not_le fun z => q1 ((on_le (k := 800) (by omega) (by omega)).mpr z)
      refine ⟨on_vp (by omega) hlt, ?_⟩
      refine hk _ (B.2 a) (fun b z1 z2 z3 => by rw [up_ne z2, up_ne z3, up_ne z1]) (cu _ ?_ ?_) hv (fun b hb _ => by rw [p3 b hb]) (by rw [up_at, if_pos hlt]) (fun _ j => ?_)
      · rw [up_ne (by decide), up_ne (by decide), up_at]
      · rw [up_ne (by decide), up_ne (by decide), up_nk (by decide)]
      · rw [up_ne (by decide), up_row, up_ne (by decide)]
  · have ha : ¬ a < B.1 := fun z => q ((on_lt (by omega) (by omega)).mpr z)
    rw [up_ne (show ¬ 66 = 74 by decide), up_ne (show ¬ 66 = 67 by decide), up_ne (show ¬ 66 = 74 by decide), hL, on_n (by omega), on_1 (k := L)]
    have dn : tk_S B 0 255 S = none := by
      rcases p4 with q | q
      · rw [q.1]; rfl
      · rw [q.1]; exact tkS_none fun z => ha z.1
    have cu : ∀ M' : rl_M, M' 74 1 = M 74 1 → M' 74 2 = 0 → cur_is B M' (tk_S B 0 255 S) := fun M' e1 e2 => by
      rw [dn]
      exact ⟨⟨a, e1.trans p1, p2⟩, e2⟩
    refine ⟨fun q1 => ?_, fun q1 => ?_⟩
    · have := (on_le (k := 800) (by omega) (by omega)).mp q1
      exact hk _ 0 (fun b z _ _ => up_ne z) (cu _ (up_nk (by decide)) up_at) (by decide) (fun b hb hlt => absurd (p3 b hb ▸ hlt) ha) (by rw [up_ne (by decide), if_neg (by omega)]; exact hL) (fun z => by omega)
    · have hlt : L < 800 := Nat.lt_of_not_le fun z => q1 ((on_le (k := 800) (by omega) (by omega)).mpr z)
      refine ⟨on_vp (by omega) hlt, ?_⟩
      refine hk _ 0 (fun b z1 z2 z3 => by rw [up_ne z2, up_ne z3, up_ne z1]) (cu _ ?_ ?_) (by decide) (fun b hb hlt => absurd (p3 b hb ▸ hlt) ha) (by rw [up_at, if_pos hlt]) (fun _ j => ?_)
      · rw [up_ne (by decide), up_ne (by decide), up_nk (by decide)]
      · rw [up_ne (by decide), up_ne (by decide), up_at]
      · rw [up_ne (by decide), up_row, up_ne (by decide)]; rfl
/-- the size of the next block -/
theorem cc_bls (hB : rd_ok B) (hb : by_c M B) (hc : cur_is B M S) {x3 x5 : Int32} (hx : x3 ≤ x5)
    (hk : ∀ M' v, cur_K M M' → cur_is B M' (tk_S B 0 255 S) → v < 256 → (∀ a, S = some a → a < B.1 → v = B.2 a) → mc_WP (139, 15, [.ref 74, .ref 66, .int x2, .int (Int32.ofNat v), .int (x4 + 1), .int x5], [], (M', J, rf_w r, sh_w N, n), (0, 0)) Q) :
    mc_WP (139, 35, [.ref 74, .ref 66, .int x2, .int x3, .int x4, .int x5], [], (M, J, rf_w r, sh_w N, n), (0, 0)) Q := by
  obtain ⟨a, p1, p2, p3, p4⟩ := cur_pos hc
  obtain ⟨b1, b2⟩ := hb
  have hv := hB.2 a
  have h8 := hB.1
  refine bk_139_35 (by decide) ⟨fun _ => ?_, fun q => absurd hx q⟩
  rw [p1, b1, on_n (by omega), on_1 (k := a)]
  refine ⟨fun q => ?_, fun q => ?_⟩
  · have ha := (on_lt (by omega) (by omega)).mp q
    rw [b2 a ha]
    refine ⟨on_vp (by omega) (by omega), hk _ (B.2 a) (fun b z => up_ne z) ?_ hv fun b hb _ => by rw [p3 b hb]⟩
    rcases p4 with q | q
    · rw [q.1]
      exact ⟨⟨a + 1, up_at, by omega⟩, by rw [up_nk (by decide)]; exact q.2⟩
    · rw [q.1, tkS_some ⟨ha, by omega, by omega⟩]
      exact ⟨⟨up_at, by omega⟩, by rw [up_nk (by decide)]; exact q.2⟩
  · have ha : ¬ a < B.1 := fun z => q ((on_lt (by omega) (by omega)).mpr z)
    refine hk _ 0 (fun b z => up_ne z) ?_ (by decide) fun b hb hlt => absurd (p3 b hb ▸ hlt) ha
    have : tk_S B 0 255 S = none := by
      rcases p4 with q | q
      · rw [q.1]; rfl
      · rw [q.1]; exact tkS_none fun z => ha z.1
    rw [this]
    exact ⟨⟨a, by rw [up_nk (by decide)]; exact p1, p2⟩, up_at⟩
/-- once something was wrong -/
theorem cc_bld (hB : rd_ok B) (hb : by_c M B) (hk : ∀ M' x, hb_K M M' → cur_is B M' none → (∃ L, L ≤ 800 ∧ M' 66 1 = Int32.ofNat L) → Q (.inl (some (.int x))) (M', J, rf_w r, sh_w N, n)) :
    ∀ d t, t + d = 800 → (∀ (M1 : rl_M) x2 s x5, s < 256 → hb_K M M1 → cur_is B M1 none → (∃ L, L ≤ 800 ∧ M1 66 1 = Int32.ofNat L) → mc_WP (139, 15, [.ref 74, .ref 66, .int x2, .int (Int32.ofNat s), .int (Int32.ofNat t), x5], [], (M1, J, rf_w r, sh_w N, n), (0, 0)) Q) := by
  intro d
  induction d with
  | zero =>
    intro t ht M1 x2 s x5 hs k1 c1 l1
    refine bk_139_15 (by decide) ⟨fun _ => hk M1 x2 k1 c1 l1, fun q => absurd ?_ q⟩
    rw [show t = 800 by omega]; decide
  | succ d ih =>
    intro t ht M1 x2 s x5 hs k1 c1 l1
    refine bk_139_15 (by decide) ⟨fun _ => hk M1 x2 k1 c1 l1, fun _ => ⟨fun _ => hk M1 x2 k1 c1 l1, fun _ => ?_⟩⟩
    generalize M1 66 1 = y2
    have inner : ∀ e k (M2 : rl_M), k + e = s → hb_K M M2 → cur_is B M2 none → (∃ L, L ≤ 800 ∧ M2 66 1 = Int32.ofNat L) → mc_WP (139, 35, [.ref 74, .ref 66, .int y2, .int (Int32.ofNat s), .int (Int32.ofNat t), .int (Int32.ofNat k)], [], (M2, J, rf_w r, sh_w N, n), (0, 0)) Q := by
      intro e
      induction e with
      | zero =>
        intro k M2 he k2 c2 l2
        refine cc_bls hB (hb_by k2 hb) c2 ((on_le (by omega) (by omega)).mpr (by omega)) fun M3 v k3 c3 w3 _ => ?_
        rw [on_1]
        obtain ⟨L, l3, l4⟩ := l2
        exact ih (t + 1) (by omega) M3 y2 v _ w3 (fun b z1 z2 z3 => (k3 b z1).trans (k2 b z1 z2 z3)) c3 ⟨L, l3, by rw [k3 66 (by decide)]; exact l4⟩
      | succ e ihe =>
        intro k M2 he k2 c2 l2
        obtain ⟨L, l3, l4⟩ := l2
        refine cc_bl1 hB (hb_by k2 hb) c2 l4 l3 (by omega) hs fun M3 v k3 c3 w3 _ e3 _ => ?_
        refine ihe (k + 1) M3 (by omega) (k2.tr k3) c3 ⟨_, ?_, e3⟩
        split <;> omega
    exact inner s 0 M1 (by omega) k1 c1 l1
theorem sgb_snoc : sg_b B a (k + 1) = sg_b B a k ++ [B.2 (a + k)] := by unfold sg_b; rw [List.range_succ, List.map_append]; rfl
theorem hd_app (h : hd_is M D) (e1 : M' 66 1 = Int32.ofNat (D.length + 1)) (e2 : ∀ j, M' 67 j = if j = D.length then Int32.ofNat v else M 67 j) : hd_is M' (D ++ [v]) := by
  refine ⟨by rw [e1, List.length_append]; rfl, fun k y hk => ?_⟩
  rw [e2]
  by_cases q : k < D.length
  · rw [List.getElem?_append_left q] at hk
    rw [if_neg (by omega)]
    exact h.2 k y hk
  · have hlt := (List.getElem?_eq_some_iff.mp hk).1
    rw [List.length_append, List.length_singleton] at hlt
    have e : k = D.length := by omega
    subst e
    rw [List.getElem?_append_right (Nat.le_refl _), Nat.sub_self] at hk
    cases hk
    rw [if_pos rfl]
/-- the blocks from the first size on -/
theorem cc_bln (hB : rd_ok B) (hb : by_c M B) : ∀ t v a D ls turn (M1 : rl_M) (x5 : Value), v < 256 → a ≤ B.1 → B.1 < a + t → turn < a → D.length < a → hb_K M M1 → cur_is B M1 (some a) → hd_is M1 D →
    (∀ M' x, hb_K M M' → bk_n B t v a = none → cur_is B M' none → (∃ L, L ≤ 800 ∧ M' 66 1 = Int32.ofNat L) → Q (.inl (some (.int x))) (M', J, rf_w r, sh_w N, n)) →
    (∀ M' segs z, hb_K M M' → bk_n B t v a = some (segs, z) → cur_is B M' (some z) → hd_is M' (D ++ segs.flatten) → (D ++ segs.flatten).length ≤ 800 → Q (.inl (some (.int (Int32.ofNat (if segs = [] then ls else D.length + ls_f segs))))) (M', J, rf_w r, sh_w N, n)) →
    mc_WP (139, 15, [.ref 74, .ref 66, .int (Int32.ofNat ls), .int (Int32.ofNat v), .int (Int32.ofNat turn), x5], [], (M1, J, rf_w r, sh_w N, n), (0, 0)) Q := by
  have h8 := hB.1
  intro t
  induction t with
  | zero => intro v a D ls turn M1 x5 hv h1 h2; omega
  | succ t ih =>
    intro v a D ls turn M1 x5 hv h1 h2 h3 h4 k1 c1 d1 hd hk
    refine bk_139_15 (by decide) ⟨fun q => absurd ((on_le (k := 800) (by omega) (by omega)).mp q) (by omega), fun _ => ⟨fun q => ?_, fun q => ?_⟩⟩
    · have hv0 : v = 0 := by
        have := (on_le (m := 0) (by omega) (by omega)).mp q
        omega
      subst hv0
      have := hk M1 [] a k1 rfl c1 (by rw [List.flatten_nil, List.append_nil]; exact d1) (by rw [List.flatten_nil, List.append_nil]; omega)
      rw [if_pos rfl] at this
      exact this
    · have hv0 : ¬ v = 0 := fun z => q (by rw [z]; decide)
      rw [d1.1]
      have inner : ∀ e k (M2 : rl_M), k + e = v → a + k ≤ B.1 → hb_K M M2 → cur_is B M2 (some (a + k)) → hd_is M2 (D ++ sg_b B a k) → mc_WP (139, 35, [.ref 74, .ref 66, .int (Int32.ofNat D.length), .int (Int32.ofNat v), .int (Int32.ofNat turn), .int (Int32.ofNat k)], [], (M2, J, rf_w r, sh_w N, n), (0, 0)) Q := by
        intro e
        induction e with
        | zero =>
          intro k M2 he hk1 k2 c2 d2
          have hkv : k = v := by omega
          subst hkv
          refine cc_bls hB (hb_by k2 hb) c2 ((on_le (by omega) (by omega)).mpr (Nat.le_refl _)) fun M3 w k3 c3 w3 e3 => ?_
          rw [on_1]
          have k13 : hb_K M M3 := fun b z1 z2 z3 => (k3 b z1).trans (k2 b z1 z2 z3)
          have d3 : hd_is M3 (D ++ sg_b B a k) := by unfold hd_is; rw [k3 66 (by decide), k3 67 (by decide)]; exact d2
          have dl : (D ++ sg_b B a k).length = D.length + k := by rw [List.length_append, sgb_len]
          by_cases q2 : a + k < B.1
          · rw [tkS_some ⟨q2, by omega, by have := hB.2 (a + k); omega⟩] at c3
            rw [e3 _ rfl q2]
            refine ih (B.2 (a + k)) (a + k + 1) (D ++ sg_b B a k) D.length (turn + 1) M3 _ (hB.2 _) (by omega) (by omega) (by omega) (by omega) k13 c3 d3 (fun M' x k' hn c' l' => hd M' x k' ?_ c' l') (fun M' segs z k' hs c' d' l' => ?_)
            · rw [bkn_s hv0 q2, hn]; rfl
            · have := hk M' (sg_b B a k :: segs) z k' (by rw [bkn_s hv0 q2, hs]; rfl) c' (by rw [List.flatten_cons, ← List.append_assoc]; exact d') (by rw [List.flatten_cons, ← List.append_assoc]; exact l')
              rw [if_neg (by simp), lsf_cons, sgb_len] at this
              rw [dl]
              by_cases qs : segs = []
              · rw [if_pos qs] at this ⊢; exact this
              · rw [if_neg qs, ← Nat.add_assoc] at this; rw [if_neg qs]; exact this
          · rw [tkS_none fun z => q2 z.1] at c3
            refine cc_bld hB hb (fun M' x k' c' l' => hd M' x k' (bkn_n hv0 q2) c' l') (800 - (turn + 1)) (turn + 1) (by omega) M3 _ w _ w3 k13 c3 ⟨_, ?_, d3.1⟩
            omega
        | succ e ihe =>
          intro k M2 he hk1 k2 c2 d2
          have dl : (D ++ sg_b B a k).length = D.length + k := by rw [List.length_append, sgb_len]
          refine cc_bl1 hB (hb_by k2 hb) c2 d2.1 (by omega) (by omega) hv fun M3 w k3 c3 w3 e3 l3 r3 => ?_
          by_cases q2 : a + k < B.1
          · rw [tkS_some ⟨q2, by omega, by have := hB.2 (a + k); omega⟩] at c3
            rw [if_pos (by omega)] at l3
            refine ihe (k + 1) M3 (by omega) (by omega) (k2.tr k3) c3 ?_
            rw [sgb_snoc, ← List.append_assoc, ← e3 _ rfl q2]
            exact hd_app d2 l3 (r3 (by omega))
          · rw [tkS_none fun z => q2 z.1] at c3
            have dead : ∀ e k (M2 : rl_M), k + e = v → hb_K M M2 → cur_is B M2 none → (∃ L, L ≤ 800 ∧ M2 66 1 = Int32.ofNat L) → mc_WP (139, 35, [.ref 74, .ref 66, .int (Int32.ofNat D.length), .int (Int32.ofNat v), .int (Int32.ofNat turn), .int (Int32.ofNat k)], [], (M2, J, rf_w r, sh_w N, n), (0, 0)) Q := by
              intro e
              induction e with
              | zero =>
                intro k M2 he k2 c2 l2
                refine cc_bls hB (hb_by k2 hb) c2 ((on_le (by omega) (by omega)).mpr (by omega)) fun M3 v k3 c3 w3 _ => ?_
                rw [on_1]
                obtain ⟨L, l3, l4⟩ := l2
                exact cc_bld hB hb (fun M' x k' c' l' => hd M' x k' (bkn_n hv0 (by omega)) c' l') (800 - (turn + 1)) (turn + 1) (by omega) M3 _ v _ w3 (fun b z1 z2 z3 => (k3 b z1).trans (k2 b z1 z2 z3)) c3 ⟨L, l3, by rw [k3 66 (by decide)]; exact l4⟩
              | succ e ihd =>
                intro k M2 he k2 c2 l2
                obtain ⟨L, l3, l4⟩ := l2
                refine cc_bl1 hB (hb_by k2 hb) c2 l4 l3 (by omega) hv fun M3 v k3 c3 w3 _ e3 _ => ?_
                refine ihd (k + 1) M3 (by omega) (k2.tr k3) c3 ⟨_, ?_, e3⟩
                split <;> omega
            refine dead e (k + 1) M3 (by omega) (k2.tr k3) c3 ⟨_, ?_, l3⟩
            split <;> omega
      exact inner v 0 M1 (by omega) (by omega) k1 c1 (by unfold sg_b; rw [List.range_zero, List.map_nil, List.append_nil]; exact d1)
theorem cc_blks (hB : rd_ok B) (hb : by_c M B) (hc : cur_is B M S)
    (hd : ∀ M' x, hb_K M M' → (S.bind (bk_s B)) = none → cur_is B M' none → (∃ L, L ≤ 800 ∧ M' 66 1 = Int32.ofNat L) → Q (.inl (some (.int x))) (M', J, rf_w r, sh_w N, n))
    (hk : ∀ M' segs z, hb_K M M' → (S.bind (bk_s B)) = some (segs, z) → cur_is B M' (some z) → hd_is M' segs.flatten → segs.flatten.length ≤ 800 → Q (.inl (some (.int (Int32.ofNat (ls_f segs))))) (M', J, rf_w r, sh_w N, n)) :
    mc_WP (mc_en 139 [.ref 74, .ref 66] (M, J, rf_w r, sh_w N, n)) Q := by
  obtain ⟨a, p1, p2, p3, p4⟩ := cur_pos hc
  have h8 := hB.1
  have b1 := hb.1
  have b2 := hb.2
  refine bk_139_0 (by decide) ?_
  rw [up_ne (show ¬ 74 = 66 by decide), up_ne (show ¬ 54 = 66 by decide), up_ne (show ¬ 55 = 66 by decide), p1, b1, on_n (by omega), on_1]
  have kk : ∀ v, hb_K M (mc_up (mc_up M 66 1 0) 74 1 v) := fun v b z1 z2 _ => by rw [up_ne z1, up_ne z2]
  refine ⟨fun q => ?_, fun q => ?_⟩
  · have ha := (on_lt (by omega) (by omega)).mp q
    rw [b2 a ha]
    refine ⟨on_vp (by omega) (by omega), ?_⟩
    generalize hM1 : mc_up (mc_up M 66 1 0) 74 1 (Int32.ofNat (a + 1)) = M1
    have k1 : hb_K M M1 := by rw [← hM1]; exact kk _
    have l1 : M1 66 1 = 0 := by rw [← hM1, up_ne (by decide), up_at]
    rcases p4 with z | z
    · refine cc_bld hB hb (fun M' x k' c' l' => hd M' x k' (by rw [z.1]; rfl) c' l') 800 0 (by omega) M1 _ (B.2 a) _ (hB.2 a) k1 ⟨⟨a + 1, by rw [← hM1, up_at], by omega⟩, by rw [← hM1, up_nk (by decide), up_ne (by decide)]; exact z.2⟩ ⟨0, by decide, l1⟩
    · have hs : S.bind (bk_s B) = bk_n B 900 (B.2 a) (a + 1) := by rw [z.1]; show bk_s B a = _; unfold bk_s; rw [if_pos ha]
      refine cc_bln (D := []) (ls := 0) (turn := 0) hB hb 900 (B.2 a) (a + 1) M1 _ (hB.2 a) (by omega) (by omega) (by omega) (by show 0 < a + 1; omega) k1 ⟨⟨by rw [← hM1, up_at], by omega⟩, by rw [← hM1, up_nk (by decide), up_ne (by decide)]; exact z.2⟩ ⟨l1, fun k y h => absurd h (by simp)⟩ (fun M' x k' hn c' l' => hd M' x k' (hs.trans hn) c' l') (fun M' segs z k' h1 c' d' l' => ?_)
      rw [List.nil_append] at d' l'
      have := hk M' segs z k' (hs.trans h1) c' d' l'
      rw [show (if segs = [] then 0 else ([] : List Nat).length + ls_f segs) = ls_f segs by
        split
        · rename_i q; rw [q]; rfl
        · exact Nat.zero_add _]
      exact this
  · have ha : ¬ a < B.1 := fun z => q ((on_lt (by omega) (by omega)).mpr z)
    have hs : S.bind (bk_s B) = none := by
      rcases p4 with z | z
      · rw [z.1]; rfl
      · rw [z.1]; exact bks_n ha
    refine bk_139_15 (by decide) ⟨fun z => absurd z (by decide), fun _ => ⟨fun _ => ?_, fun z => absurd (by decide) z⟩⟩
    refine hd _ _ (fun b z1 z2 _ => by rw [up_ne z1, up_ne z2]) hs ⟨⟨a, by rw [up_nk (by decide), up_ne (by decide)]; exact p1, p2⟩, up_at⟩ ⟨0, by decide, by rw [up_ne (by decide), up_at]; rfl⟩
end
