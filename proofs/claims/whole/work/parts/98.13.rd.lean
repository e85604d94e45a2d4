/-! read: the reference takes bytes and codes -/
section
variable {I M M' : rl_M} {J : Nat → Nat → Int64} {r N n : Nat} {Q : mc_Q} {B : rd_B} {S : Option Nat} {a k m lo hi x y b v w t g : Nat} {x1 : Int32} {fr : Nat} {Z : lz_Z} {st : rd_S}
def by_m (M : rl_M) (B : rd_B) : Prop := M 84 10 = Int32.ofNat B.1 ∧ ∀ k, k < B.1 → M 91 k = Int32.ofNat (B.2 k)
def gd_is (M : rl_M) : Option Nat → Prop
  | some a => M 84 21 = Int32.ofNat a ∧ M 84 22 = 1
  | none => M 84 22 = 0
def gt_K (M M' : rl_M) : Prop := (∀ b, ¬ b = 84 → M' b = M b) ∧ ∀ k, ¬ k = 21 → ¬ k = 22 → M' 84 k = M 84 k
theorem gt_K.tr {M2 : rl_M} (h : gt_K M M') (h2 : gt_K M' M2) : gt_K M M2 := ⟨fun b q => (h2.1 b q).trans (h.1 b q), fun k q1 q2 => (h2.2 k q1 q2).trans (h.2 k q1 q2)⟩
theorem by_mg (h : by_m M B) (h1 : M' 84 10 = M 84 10) (h2 : M' 91 = M 91) : by_m M' B := by unfold by_m; rw [h1, h2]; exact h
theorem gt_by (h : gt_K M M') (hb : by_m M B) : by_m M' B := by_mg hb (h.2 10 (by decide) (by decide)) (h.1 91 (by decide))
theorem gd_cg (h : gd_is M S) (h1 : M' 84 21 = M 84 21) (h2 : M' 84 22 = M 84 22) : gd_is M' S := by
  cases S with
  | none => unfold gd_is at h ⊢; rw [h2]; exact h
  | some a => unfold gd_is at h ⊢; rw [h1, h2]; exact h
def sm_S (S : Option Nat) : Prop := ∀ a, S = some a → a ≤ 2000
theorem sm_tk (hB : rd_ok B) : sm_S (tk_S B lo hi S) := fun a h => by
  obtain ⟨b, _, h2, h3⟩ := tkS_inv h
  have := h2.1
  have := hB.1
  omega
theorem cm_take (hB : rd_ok B) (hb : by_m M B) (hg : gd_is M S) (hs : sm_S S) (hlh : lo ≤ hi) (hh : hi < 256)
    (hk : ∀ M' v, gt_K M M' → gd_is M' (tk_S B lo hi S) → lo ≤ v → v ≤ hi → (∀ a, S = some a → tk_v B a lo hi → v = B.2 a) → (tk_S B lo hi S = none → v = lo) → Q (.inl (some (.int (Int32.ofNat v)))) (M', J, rf_w r, sh_w N, n)) :
    mc_WP (mc_en 95 [.ref 84, .int (Int32.ofNat lo), .int (Int32.ofNat hi)] (M, J, rf_w r, sh_w N, n)) Q := by
  have h8 := hB.1
  refine bk_95_0 ?_
  have dead : tk_S B lo hi S = none → (∀ a, S = some a → ¬ tk_v B a lo hi) → Q (.inl (some (.int (Int32.ofNat lo)))) (mc_up (mc_up M 84 22 0) 84 21 (M 84 21 + 1), J, rf_w r, sh_w N, n) := fun h1 h2 => hk _ lo ⟨fun b q => by rw [up_ne q, up_ne q], fun k q1 q2 => by rw [up_nk q1, up_nk q2]⟩ (by rw [h1]; show mc_up (mc_up M 84 22 0) 84 21 (M 84 21 + 1) 84 22 = 0; rw [up_nk (by decide), up_at]) (Nat.le_refl _) hlh (fun a hS ht => absurd ht (h2 a hS)) (fun _ => rfl)
  cases S with
  | none => exact ⟨fun _ => dead rfl (fun a h => nomatch h), fun q => absurd hg q⟩
  | some a =>
    obtain ⟨g1, g2⟩ := hg
    have ha := hs a rfl
    have hv := hB.2 a
    rw [g2, g1, hb.1, on_n (by omega), on_1]
    rw [g1, on_1] at dead
    have nt : ¬ tk_v B a lo hi → ∀ b, some a = some b → ¬ tk_v B b lo hi := fun h b e => by cases e; exact h
    refine ⟨fun q => absurd q (by decide), fun _ => ⟨fun q => ?_, fun q => ?_⟩⟩
    · have := (on_le (by omega) (by omega)).mp q
      have hn : ¬ tk_v B a lo hi := fun z => by have := z.1; omega
      exact dead (tkS_none hn) (nt hn)
    · have hlt : a < B.1 := Nat.lt_of_not_le fun z => q ((on_le (by omega) (by omega)).mpr z)
      rw [hb.2 a hlt]
      refine ⟨on_vp (by omega) (by omega), fun q1 => ?_, fun q1 => ⟨fun q2 => ⟨on_vp (by omega) (by omega), ?_⟩, fun q2 => ?_⟩⟩
      · have := (on_lt (by omega) (by omega)).mp q1
        have hn : ¬ tk_v B a lo hi := fun z => by have := z.2.1; omega
        exact dead (tkS_none hn) (nt hn)
      · have h1 : lo ≤ B.2 a := Nat.le_of_not_lt fun z => q1 ((on_lt (by omega) (by omega)).mpr z)
        have h2 := (on_le (by omega) (by omega)).mp q2
        have ht : tk_v B a lo hi := ⟨hlt, h1, h2⟩
        refine hk _ (B.2 a) ⟨fun b q => by rw [up_ne q, up_ne q], fun k q1 q2 => by rw [up_nk q1, up_nk q2]⟩ ?_ h1 h2 (fun b hb' _ => by cases hb'; rfl) (fun z => by rw [tkS_some ht] at z; cases z)
        rw [tkS_some ht]
        exact ⟨up_at, by rw [up_nk (by decide), up_at]⟩
      · have hn : ¬ tk_v B a lo hi := fun z => q2 ((on_le (by omega) (by omega)).mpr z.2.2)
        exact dead (tkS_none hn) (nt hn)
/-- colours -/
theorem cm_col1 {x3 x4 : Int32} (hx : -1 ≤ x1.toInt ∧ x1.toInt < 4) (h3 : ¬ (3 : Int32) ≤ x4) (hbits : (1 : Int32) <<< (M 88 (9 * ow_g x1 + 4) &&& 31) = Int32.ofNat m) (hm : m ≤ 16) (hkm : k < m) (hB : rd_ok B) (hb : by_m M B) (hg : gd_is M S) (hs : sm_S S)
    (hk : ∀ M' v, gt_K M M' → gd_is M' (tk_S B 0 255 S) → v < 256 → (∀ a, S = some a → a < B.1 → v = B.2 a) → mc_WP (96, 13, [.ref 84, .int x1, .int (Int32.ofNat k), .int ((x3 <<< ((8 : Int32) &&& 31)) ||| Int32.ofNat v), .int (x4 + 1)], [], (M', J, rf_w r, sh_w N, n), (0, 0)) Q) :
    mc_WP (96, 13, [.ref 84, .int x1, .int (Int32.ofNat k), .int x3, .int x4], [], (M, J, rf_w r, sh_w N, n), (0, 0)) Q := by
  have e := ix_9g (k := 4) hx (by decide)
  rw [show ((4 : Int32).toInt).toNat = 4 from rfl] at e
  refine bk_96_13 ⟨fun q => absurd q h3, fun _ => ⟨e.2, ?_⟩⟩
  rw [e.1, hbits]
  refine ⟨fun q => absurd ((on_le (by omega) (by omega)).mp q) (by omega), fun _ => mc_inl ?_⟩
  refine cm_take (lo := 0) (hi := 255) hB hb hg hs (by decide) (by decide) fun M1 v k1 g1 _ w1 e1 _ => bk_96_50 ?_
  exact hk M1 v k1 g1 (by omega) fun a hS hlt => e1 a hS ⟨hlt, by omega, by have := hB.2 a; omega⟩
def gc_K (g : Nat) (M M' : rl_M) : Prop := (∀ b, ¬ b = 84 → ¬ b = 89 → M' b = M b) ∧ (∀ k, ¬ k = 21 → ¬ k = 22 → M' 84 k = M 84 k) ∧ ∀ k, (k < 16 * g ∨ 16 * g + 16 ≤ k) → M' 89 k = M 89 k
theorem sm_co (hB : rd_ok B) : sm_S (co_S B k S) := fun a h => by
  cases S with
  | none => cases h
  | some b =>
    by_cases q : b + 3 * k ≤ B.1
    · rw [coS_some q] at h
      have := Option.some.inj h
      have := hB.1
      omega
    · rw [coS_none q] at h; cases h
theorem cm_colours (hx : -1 ≤ x1.toInt ∧ x1.toInt < 4) (hbits : (1 : Int32) <<< (M 88 (9 * ow_g x1 + 4) &&& 31) = Int32.ofNat m) (hm : m ≤ 16) (hB : rd_ok B) (hb : by_m M B) (hg : gd_is M S) (hs : sm_S S) (hS1 : ∀ a, S = some a → a ≤ B.1)
    (hk : ∀ M', gc_K (ow_g x1) M M' → gd_is M' (co_S B m S) → (∀ a, S = some a → a + 3 * m ≤ B.1 → ∀ k, k < 16 → M' 89 (16 * ow_g x1 + k) = if k < m then cv_f B (a + 3 * k) else 0) → Q (.inl none) (M', J, rf_w r, sh_w N, n)) :
    mc_WP (mc_en 96 [.ref 84, .int x1] (M, J, rf_w r, sh_w N, n)) Q := by
  generalize hge : ow_g x1 = g at *
  have h8 := hB.1
  have co0 : co_S B 0 S = S := by
    cases S with
    | none => rfl
    | some a => exact if_pos (by have := hS1 a rfl; omega)
  refine bk_96_0 ?_
  refine lp_go (C := fun k (i : rl_M × Value × Value) => (96, 2, [.ref 84, .int x1, .int (Int32.ofNat k), i.2.1, i.2.2], [], (i.1, J, rf_w r, sh_w N, n), (0, 0))) (P := fun k i => gc_K g M i.1 ∧ gd_is i.1 (co_S B (min k m) S) ∧ (∀ a, S = some a → a + 3 * min k m ≤ B.1 → ∀ j, j < k → i.1 89 (16 * g + j) = if j < m then cv_f B (a + 3 * j) else 0)) 16 (M, .null, .null) ⟨⟨fun _ _ _ => rfl, fun _ _ _ => rfl, fun _ _ => rfl⟩, by rw [Nat.zero_min, co0]; exact hg, fun _ _ _ j hj => absurd hj (by omega)⟩ ?_ ?_
  · intro k hk' ⟨M1, z3, z4⟩ ⟨⟨i1, i2, i3⟩, i4, i5⟩ ih
    dsimp only at i1 i2 i3 i4 i5 ih ⊢
    have ex := ix_16g (x1 := x1) (k := Int32.ofNat k) hx (by rw [on_t (by omega)]; omega)
    rw [on_t (by omega), hge] at ex
    have ex1 : ((16 : Int32) * (x1 + 1) + Int32.ofNat k).toNatClampNeg = 16 * g + k := by rw [ex.1]; rfl
    have bm : ∀ M2 : rl_M, (∀ b, ¬ b = 84 → ¬ b = 89 → M2 b = M b) → (∀ k, ¬ k = 21 → ¬ k = 22 → M2 84 k = M 84 k) → by_m M2 B := fun M2 h1 h2 => by_mg hb (h2 10 (by decide) (by decide)) (h1 91 (by decide) (by decide))
    refine bk_96_2 ⟨fun q => absurd ((on_le (k := 16) (by omega) (by omega)).mp q) (by omega), fun _ => ?_⟩
    -- a colour is put
    have put : ∀ (M2 : rl_M) (v : Int32) (x4 : Int32), ((3 : Int32) ≤ x4 ∨ m ≤ k) → (∀ b, ¬ b = 84 → M2 b = M1 b) → (∀ j, ¬ j = 21 → ¬ j = 22 → M2 84 j = M1 84 j) → gd_is M2 (co_S B (min (k + 1) m) S) → (∀ a, S = some a → a + 3 * min (k + 1) m ≤ B.1 → v = if k < m then cv_f B (a + 3 * k) else 0) → mc_WP (96, 13, [.ref 84, .int x1, .int (Int32.ofNat k), .int v, .int x4], [], (M2, J, rf_w r, sh_w N, n), (0, 0)) Q := fun M2 v x4 hx4 h1 h2 h3 h4 => by
      have go : vp_in ((16 : Int32) * (x1 + 1) + Int32.ofNat k) 80 ∧ mc_WP (96, 2, [.ref 84, .int x1, .int (Int32.ofNat k + 1), .int v, .int x4], [], (mc_up M2 89 ((16 : Int32) * (x1 + 1) + Int32.ofNat k).toNatClampNeg v, J, rf_w r, sh_w N, n), (0, 0)) Q := by
        refine ⟨ex.2, ?_⟩
        rw [ex1, on_1]
        generalize hM3 : mc_up M2 89 (16 * g + k) v = M3
        have k3 : ∀ b, ¬ b = 89 → M3 b = M2 b := fun b z => by rw [← hM3, up_ne z]
        refine ih (M3, _, _) ⟨⟨fun b z1 z2 => by show M3 b = M b; rw [k3 b z2, h1 b z1]; exact i1 b z1 z2, fun j z1 z2 => by show M3 84 j = M 84 j; rw [k3 84 (by decide), h2 j z1 z2]; exact i2 j z1 z2, fun j z => by show M3 89 j = M 89 j; rw [← hM3, up_nk (by omega), h1 89 (by decide)]; exact i3 j z⟩, gd_cg (M := M2) h3 (by show M3 84 21 = _; rw [k3 84 (by decide)]) (by show M3 84 22 = _; rw [k3 84 (by decide)]), fun a hS hle j hj => ?_⟩
        show M3 89 (16 * g + j) = _
        by_cases z : j = k
        · subst z
          rw [← hM3, up_at]
          exact h4 a hS hle
        · rw [← hM3, up_nk (by omega), h1 89 (by decide)]
          refine i5 a hS ?_ j (by omega)
          have : min k m ≤ min (k + 1) m := by omega
          omega
      refine bk_96_13 ⟨fun _ => go, fun q3 => ?_⟩
      have e := ix_9g (k := 4) hx (by decide)
      rw [show ((4 : Int32).toInt).toNat = 4 from rfl, hge] at e
      refine ⟨e.2, ?_⟩
      rw [e.1, h1 88 (by decide), i1 88 (by decide) (by decide), hbits]
      rcases hx4 with hx4 | hx4
      · exact absurd hx4 q3
      · exact ⟨fun _ => go, fun q => absurd ((on_le (by omega) (by omega)).mpr hx4) q⟩
    by_cases hkm : k < m
    · have mk : min k m = k := by omega
      have mk1 : min (k + 1) m = k + 1 := by omega
      rw [mk] at i4 i5
      rw [mk1] at put
      have hb88 : ∀ M2 : rl_M, M2 88 = M 88 → (1 : Int32) <<< (M2 88 (9 * ow_g x1 + 4) &&& 31) = Int32.ofNat m := fun M2 h => by rw [hge, h]; exact hbits
      refine cm_col1 hx (by decide) (hb88 M1 (i1 88 (by decide) (by decide))) hm hkm hB (bm M1 i1 i2) i4 (sm_co hB) fun M2 v1 k2 g2 w1 e1 => ?_
      rw [show (0 : Int32) = Int32.ofNat 0 from rfl, or_8 (by decide) w1, on_1]
      refine cm_col1 hx (by decide) (hb88 M2 (by rw [k2.1 88 (by decide)]; exact i1 88 (by decide) (by decide))) hm hkm hB (gt_by k2 (bm M1 i1 i2)) g2 (sm_tk hB) fun M3 v2 k3 g3 w2 e2 => ?_
      rw [or_8 (by omega) w2, on_1]
      refine cm_col1 hx (by decide) (hb88 M3 (by rw [k3.1 88 (by decide), k2.1 88 (by decide)]; exact i1 88 (by decide) (by decide))) hm hkm hB (gt_by k3 (gt_by k2 (bm M1 i1 i2))) g3 (sm_tk hB) fun M4 v3 k4 g4 w3 e3 => ?_
      rw [or_8 (by omega) w3, on_1]
      rw [coS_s hB] at g4
      have k14 := (k2.tr k3).tr k4
      refine put M4 _ _ (Or.inl (by decide)) k14.1 k14.2 g4 (fun a hS hle => ?_)
      rw [if_pos hkm]
      have s0 : co_S B k S = some (a + 3 * k) := by rw [hS]; exact coS_some (by omega)
      have t : ∀ b, b < B.1 → tk_S B 0 255 (some b) = some (b + 1) := fun b hb => tkS_some ⟨hb, by omega, by have := hB.2 b; omega⟩
      have q1 := e1 _ s0 (by omega)
      rw [s0, t _ (by omega)] at e2
      have q2 := e2 _ rfl (by omega)
      rw [s0, t _ (by omega), t _ (by omega)] at e3
      have q3 := e3 _ rfl (by omega)
      rw [q1, q2, q3]
      unfold cv_f
      rw [Nat.zero_mul, Nat.zero_add]
    · have mk : min k m = m := by omega
      have mk1 : min (k + 1) m = m := by omega
      rw [mk] at i4
      rw [mk1] at put
      exact put M1 0 0 (Or.inr (by omega)) (fun _ _ => rfl) (fun _ _ _ => rfl) i4 (fun _ _ _ => by rw [if_neg hkm])
  · intro ⟨M1, z3, z4⟩ ⟨i1, i4, i5⟩
    dsimp only at i1 i4 i5 ⊢
    rw [show min 16 m = m by omega] at i4 i5
    exact bk_96_2 ⟨fun _ => hk M1 i1 i4 i5, fun q => absurd (by decide) q⟩
theorem cm_coloursOf (hx : -1 ≤ x1.toInt ∧ x1.toInt < 4) (hbits : M 88 (9 * ow_g x1 + 4) = Int32.ofNat b) (hb4 : b ≤ 4) (hB : rd_ok B) (hb : by_m M B) (hg : gd_is M S) (hs : sm_S S) (hS1 : ∀ a, S = some a → a ≤ B.1)
    (hk : ∀ M', gc_K (ow_g x1) M M' → gd_is M' (co_S B (cn_b b) S) → (∀ a, S = some a → a + 3 * cn_b b ≤ B.1 → ∀ k, k < 16 → M' 89 (16 * ow_g x1 + k) = if k < cn_b b then cv_f B (a + 3 * k) else 0) → Q (.inl none) (M', J, rf_w r, sh_w N, n)) :
    mc_WP (mc_en 102 [.ref 84, .int x1] (M, J, rf_w r, sh_w N, n)) Q := by
  have e := ix_9g (k := 4) hx (by decide)
  rw [show ((4 : Int32).toInt).toNat = 4 from rfl] at e
  refine bk_102_0 ⟨e.2, ?_⟩
  rw [e.1, hbits]
  refine ⟨fun q => ?_, fun q => mc_inl ?_⟩
  · have hb0 : b = 0 := by
      have := (on_le (m := 0) (by omega) (by omega)).mp q
      omega
    subst hb0
    have cn0 : cn_b 0 = 0 := rfl
    rw [cn0] at hk
    have co0 : co_S B 0 S = S := by
      cases S with
      | none => rfl
      | some a => exact if_pos (by have := hS1 a rfl; omega)
    rw [co0] at hk
    generalize hge : ow_g x1 = g at *
    refine lp_go (C := fun k (i : rl_M) => (102, 26, [.ref 84, .int x1, .int (Int32.ofNat k)], [], (i, J, rf_w r, sh_w N, n), (0, 0))) (P := fun k i => (∀ b, ¬ b = 89 → i b = M b) ∧ (∀ j, (j < 16 * g ∨ 16 * g + 16 ≤ j) → i 89 j = M 89 j) ∧ ∀ j, j < k → i 89 (16 * g + j) = 0) 16 M ⟨fun _ _ => rfl, fun _ _ => rfl, fun j hj => absurd hj (by omega)⟩ ?_ ?_
    · intro k hk' M1 ⟨i1, i2, i3⟩ ih
      try dsimp only at ih ⊢
      have ex := ix_16g (x1 := x1) (k := Int32.ofNat k) hx (by rw [on_t (by omega)]; omega)
      rw [on_t (by omega), hge] at ex
      have ex1 : ((16 : Int32) * (x1 + 1) + Int32.ofNat k).toNatClampNeg = 16 * g + k := by rw [ex.1]; rfl
      refine bk_102_26 ⟨fun q => absurd ((on_le (k := 16) (by omega) (by omega)).mp q) (by omega), fun _ => ⟨ex.2, ?_⟩⟩
      rw [ex1, on_1]
      refine ih _ ⟨fun b z => by rw [up_ne z]; exact i1 b z, fun j z => by rw [up_nk (by omega)]; exact i2 j z, fun j hj => ?_⟩
      by_cases z : j = k
      · rw [z, up_at]
      · rw [up_nk (by omega)]; exact i3 j (by omega)
    · intro M1 ⟨i1, i2, i3⟩
      try dsimp only
      refine bk_102_26 ⟨fun _ => hk M1 ⟨fun b _ z => i1 b z, fun k _ _ => by rw [i1 84 (by decide)], i2⟩ (gd_cg hg (by rw [i1 84 (by decide)]) (by rw [i1 84 (by decide)])) (fun a _ _ k hk' => by rw [if_neg (by omega)]; exact i3 k hk'), fun q => absurd (by decide) q⟩
  · have hb1 : 1 ≤ b := Nat.one_le_iff_ne_zero.mpr fun z => q (by rw [z]; decide)
    have ecn : cn_b b = 2 ^ b := if_neg (by omega)
    have h16 := p2_16 hb4
    rw [ecn] at hk
    refine cm_colours hx (m := 2 ^ b) (by rw [hbits]; exact (sh_2 (i := b) (by omega)).1) h16 hB hb hg hs hS1 fun M1 k1 g1 x => bk_102_21 (hk M1 k1 g1 x)
/-- a comment -/
theorem cm_comment (hB : rd_ok B) (hb : by_m M B) (hg : gd_is M (some a)) (ha : a ≤ B.1)
    (hk : ∀ M', gt_K M M' → gd_is M' ((bk_s B a).map Prod.snd) → Q (.inl none) (M', J, rf_w r, sh_w N, n)) :
    mc_WP (mc_en 97 [.ref 84] (M, J, rf_w r, sh_w N, n)) Q := by
  have h8 := hB.1
  have run : ∀ t v a (M1 : rl_M), v < 256 → a ≤ B.1 → B.1 < a + t → gt_K M M1 → gd_is M1 (some a) → (∀ M', gt_K M M' → gd_is M' ((bk_n B t v a).map Prod.snd) → Q (.inl none) (M', J, rf_w r, sh_w N, n)) → mc_WP (97, 9, [.ref 84, .int (Int32.ofNat v)], [], (M1, J, rf_w r, sh_w N, n), (0, 0)) Q := by
    intro t
    induction t with
    | zero => intro v a M1 _ h1 h2; omega
    | succ t ih =>
      intro v a M1 hv h1 h2 k1 g1 hk1
      refine bk_97_9 ⟨fun q => ?_, fun q => ⟨fun q2 => absurd (g1.2.symm.trans q2) (by decide), fun _ => mc_inl ?_⟩⟩
      · have hv0 : v = 0 := by
          have := (on_le (m := 0) (by omega) (by omega)).mp q
          omega
        subst hv0
        exact hk1 M1 k1 g1
      · have hv0 : ¬ v = 0 := fun z => q (by rw [z]; decide)
        rw [g1.1, on_ad]
        have k2 : gt_K M (mc_up M1 84 21 (Int32.ofNat (a + v))) := ⟨fun b z => by rw [up_ne z]; exact k1.1 b z, fun k z1 z2 => by rw [up_nk z1]; exact k1.2 k z1 z2⟩
        have g2 : gd_is (mc_up M1 84 21 (Int32.ofNat (a + v))) (some (a + v)) := ⟨up_at, by rw [up_nk (by decide)]; exact g1.2⟩
        refine cm_take (lo := 0) (hi := 255) hB (gt_by k2 hb) g2 (fun b hb' => by cases hb'; omega) (by decide) (by decide) fun M3 w k3 g3 _ w3 e3 z3 => bk_97_38 ?_
        have k13 := k2.tr k3
        by_cases q2 : a + v < B.1
        · have ht : tk_v B (a + v) 0 255 := ⟨q2, by omega, by have := hB.2 (a + v); omega⟩
          rw [tkS_some ht] at g3
          rw [e3 _ rfl ht]
          rw [bkn_s hv0 q2, Option.map_map] at hk1
          refine ih (B.2 (a + v)) (a + v + 1) M3 (hB.2 _) (by omega) (by omega) k13 g3 (fun M' h1 h2 => hk1 M' h1 ?_)
          cases hr : bk_n B t (B.2 (a + v)) (a + v + 1) with
          | none => rw [hr] at h2; exact h2
          | some p => rw [hr] at h2; exact h2
        · have hn : ¬ tk_v B (a + v) 0 255 := fun z => q2 z.1
          rw [tkS_none hn] at g3
          rw [z3 (tkS_none hn)]
          rw [bkn_n hv0 q2] at hk1
          exact bk_97_9 ⟨fun _ => hk1 M3 k13 g3, fun q => absurd (by decide) q⟩
  refine bk_97_0 (mc_inl (cm_take (lo := 0) (hi := 255) hB hb hg (fun b hb' => by cases hb'; omega) (by decide) (by decide) fun M1 v k1 g1 _ w1 e1 z1 => bk_97_8 ?_))
  by_cases q : a < B.1
  · have ht : tk_v B a 0 255 := ⟨q, by omega, by have := hB.2 a; omega⟩
    rw [tkS_some ht] at g1
    rw [e1 _ rfl ht]
    refine run 900 (B.2 a) (a + 1) M1 (hB.2 _) (by omega) (by omega) k1 g1 (fun M' h1 h2 => hk M' h1 ?_)
    unfold bk_s
    rw [if_pos q]
    exact h2
  · have hn : ¬ tk_v B a 0 255 := fun z => q z.1
    rw [tkS_none hn] at g1
    rw [z1 (tkS_none hn)]
    rw [bks_n q] at hk
    exact bk_97_9 ⟨fun _ => hk M1 k1 g1, fun q => absurd (by decide) q⟩
/-- bits -/
theorem bt_or2 {v c b : Nat} (hc : c < 8) (hv : v < 2 ^ c) (hb : b < 256) : Int32.ofNat v ||| (Int32.ofNat b <<< (Int32.ofNat c &&& 31)) = Int32.ofNat (v + b * 2 ^ c) := by
  have hv2 : v < 256 := by
    have : 2 ^ c ≤ 2 ^ 8 := Nat.pow_le_pow_right (by decide) (by omega)
    have e : (2 : Nat) ^ 8 = 256 := rfl
    omega
  have h8 : b * 2 ^ c ≤ 255 * 128 := Nat.mul_le_mul (by omega) (by have : 2 ^ c ≤ 2 ^ 7 := Nat.pow_le_pow_right (by decide) (by omega); exact this)
  have tv : (Int32.ofNat v).toBitVec.toNat = v := by show v % 2 ^ 32 = v; exact Nat.mod_eq_of_lt (by omega)
  have tb : (Int32.ofNat b).toBitVec.toNat = b := by show b % 2 ^ 32 = b; exact Nat.mod_eq_of_lt (by omega)
  have ts : (Int32.ofNat (v + b * 2 ^ c)).toBitVec.toNat = v + b * 2 ^ c := by show (v + b * 2 ^ c) % 2 ^ 32 = _; exact Nat.mod_eq_of_lt (by omega)
  have sh : (Int32.ofNat b <<< (Int32.ofNat c &&& 31)).toBitVec = (Int32.ofNat b).toBitVec <<< c := by
    rcases (show c = 0 ∨ c = 1 ∨ c = 2 ∨ c = 3 ∨ c = 4 ∨ c = 5 ∨ c = 6 ∨ c = 7 by omega) with rfl | rfl | rfl | rfl | rfl | rfl | rfl | rfl <;> rfl
  have e : (Int32.ofNat v ||| (Int32.ofNat b <<< (Int32.ofNat c &&& 31))).toBitVec.toNat = v + b * 2 ^ c := by
    show ((Int32.ofNat v).toBitVec ||| (Int32.ofNat b <<< (Int32.ofNat c &&& 31)).toBitVec).toNat = _
    rw [sh, BitVec.toNat_or, BitVec.toNat_shiftLeft, tv, tb, Nat.shiftLeft_eq, Nat.mod_eq_of_lt (by omega), Nat.or_comm, ← Nat.shiftLeft_eq, ← Nat.shiftLeft_add_eq_or_of_lt hv, Nat.shiftLeft_eq, Nat.add_comm]
  rw [← Int32.toInt_inj, bn_u _ (by rw [e]; omega), bn_u _ (by rw [ts]; omega), e, ts]
theorem an_w (hw : w ≤ 6) (hx : x < 65536) : Int32.ofNat x &&& (((1 : Int32) <<< (Int32.ofNat w &&& 31)) - 1) = Int32.ofNat (x % 2 ^ w) := by
  have tx : (Int32.ofNat x).toBitVec.toNat = x := by show x % 2 ^ 32 = x; exact Nat.mod_eq_of_lt (by omega)
  have mk : ((((1 : Int32) <<< (Int32.ofNat w &&& 31)) - 1)).toBitVec.toNat = 2 ^ w - 1 := by
    rcases (show w = 0 ∨ w = 1 ∨ w = 2 ∨ w = 3 ∨ w = 4 ∨ w = 5 ∨ w = 6 by omega) with rfl | rfl | rfl | rfl | rfl | rfl | rfl <;> rfl
  have hle : x % 2 ^ w ≤ x := Nat.mod_le _ _
  have e : (Int32.ofNat x &&& (((1 : Int32) <<< (Int32.ofNat w &&& 31)) - 1)).toBitVec.toNat = x % 2 ^ w := by
    show ((Int32.ofNat x).toBitVec &&& (((1 : Int32) <<< (Int32.ofNat w &&& 31)) - 1).toBitVec).toNat = _
    rw [BitVec.toNat_and, tx, mk, Nat.and_two_pow_sub_one_eq_mod]
  have ts : (Int32.ofNat (x % 2 ^ w)).toBitVec.toNat = x % 2 ^ w := by show (x % 2 ^ w) % 2 ^ 32 = _; exact Nat.mod_eq_of_lt (by omega)
  generalize x % 2 ^ w = u at *
  rw [← Int32.toInt_inj, bn_u _ (by rw [e]; omega), bn_u _ (by rw [ts]; omega), e, ts]
theorem sr_w (hw : w ≤ 6) (hx : x < 65536) : Int32.ofNat x >>> (Int32.ofNat w &&& 31) = Int32.ofNat (x / 2 ^ w) := by
  have hs : ((Int32.ofNat w &&& 31).toBitVec.smod 32).toNat = w := by
    rcases (show w = 0 ∨ w = 1 ∨ w = 2 ∨ w = 3 ∨ w = 4 ∨ w = 5 ∨ w = 6 by omega) with rfl | rfl | rfl | rfl | rfl | rfl | rfl <;> decide
  have hle : x / 2 ^ w ≤ x := Nat.div_le_self _ _
  rw [← Int32.toInt_inj, bn_shr _ _ w hs (by rw [on_t (by omega)]; omega), on_t (by omega), on_t (by omega)]
  exact (Int.natCast_ediv _ _).symm
def ms_is (M : rl_M) (st : rd_S) : Prop := M 84 21 = Int32.ofNat st.1.1 ∧ M 84 23 = Int32.ofNat st.1.2 ∧ M 84 24 = Int32.ofNat st.2.1 ∧ M 84 25 = Int32.ofNat st.2.2
def gq_K (M M' : rl_M) : Prop := (∀ b, ¬ b = 84 → M' b = M b) ∧ ∀ k, ¬ (21 ≤ k ∧ k ≤ 25) → M' 84 k = M 84 k
theorem gq_gt (h : gt_K M M') : gq_K M M' := ⟨h.1, fun k q => h.2 k (by omega) (by omega)⟩
theorem gq_K.tr {M2 : rl_M} (h : gq_K M M') (h2 : gq_K M' M2) : gq_K M M2 := ⟨fun b q => (h2.1 b q).trans (h.1 b q), fun k q => (h2.2 k q).trans (h.2 k q)⟩
theorem cm_tcode (hf : fr ≤ 16) (h : wk_ok fr Z) (hbf : Z.2.1 = -1 ∨ ∃ b : Nat, b < 64 ∧ Z.2.1 = Int32.ofNat b) (hd : md_is M fr Z) (hB : rd_ok B) (hb : by_m M B) (hs : ms_is M st) (hv : st.2.1 < 2 ^ st.2.2 ∧ st.2.2 < 8) (hi : st.1.2 < 256) (ha : st.1.1 ≤ B.1) (hgd : M 84 22 = 1)
    (hn : ∀ M' x, gq_K M M' → tc_f B (gw fr Z) st = none → M' 84 22 = 0 → Q (.inl (some (.int x))) (M', J, rf_w r, sh_w N, n))
    (hk : ∀ M' code st', gq_K M M' → tc_f B (gw fr Z) st = some (code, st') → ms_is M' st' → (st'.2.1 < 2 ^ st'.2.2 ∧ st'.2.2 < 8) → st'.1.2 < 256 → st'.1.1 ≤ B.1 → M' 84 22 = 1 → Q (.inl (some (.int (Int32.ofNat code)))) (M', J, rf_w r, sh_w N, n)) :
    mc_WP (mc_en 98 [.ref 84] (M, J, rf_w r, sh_w N, n)) Q := by
  have h8 := hB.1
  have w6 := gw_6 (fr := fr) (Z := Z)
  refine bk_98_0 (mc_inl (cm_width (en := fr + 1) (nx := Z.1) (bf := Z.2.1) hd.1.1 hd.1.2.1 hd.1.2.2 ?_ ⟨by omega, by omega⟩ h.1.2 ?_))
  · rcases hbf with z | ⟨b, b1, z⟩
    · exact Or.inl z
    · right; rw [z, on_t (by omega)]; omega
  refine bk_98_4 ?_
  show mc_WP (98, 5, [.ref 84, .int (Int32.ofNat (gw fr Z)), .null], [], (M, J, rf_w r, sh_w N, n), (0, 0)) Q
  generalize gw fr Z = w at *
  obtain ⟨⟨ca, ci⟩, v, k⟩ := st
  obtain ⟨s1, s2, s3, s4⟩ := hs
  dsimp only at s1 s2 s3 s4 hv hi ha
  have hv8 : 2 ^ k ≤ 2 ^ 7 := Nat.pow_le_pow_right (by decide) (by omega)
  have p7 : (2 : Nat) ^ 7 = 128 := rfl
  -- the code is cut off
  have cut : ∀ (M1 : rl_M) (c' : rd_c) (V K : Nat), gq_K M M1 → M1 84 22 = 1 → M1 84 21 = Int32.ofNat c'.1 → M1 84 23 = Int32.ofNat c'.2 → M1 84 24 = Int32.ofNat V → M1 84 25 = Int32.ofNat K → w ≤ K → K < 16 → V < 2 ^ K → K - w < 8 → c'.2 < 256 → c'.1 ≤ B.1 → tc_f B w ((ca, ci), v, k) = some (V % 2 ^ w, (c', V / 2 ^ w, K - w)) → mc_WP (98, 5, [.ref 84, .int (Int32.ofNat w), .null], [], (M1, J, rf_w r, sh_w N, n), (0, 0)) Q := fun M1 c' V K k1 g1 e1 e2 e3 e4 hwK hK hV hKw hc2 hc1 htc => by
    have hVb : V < 65536 := Nat.lt_of_lt_of_le hV (by have : 2 ^ K ≤ 2 ^ 16 := Nat.pow_le_pow_right (by decide) (by omega); exact this)
    refine bk_98_5 ?_
    rw [e4, e3, an_w w6 hVb, sr_w w6 hVb, on_sub hwK]
    refine ⟨fun _ => ⟨fun q => absurd (g1.symm.trans q) (by decide), fun _ => hk _ _ _ ⟨fun b z => by rw [up_ne z, up_ne z]; exact k1.1 b z, fun j z => by rw [up_nk (by omega), up_nk (by omega)]; exact k1.2 j z⟩ htc ⟨?_, ?_, ?_, ?_⟩ ⟨?_, hKw⟩ hc2 hc1 ?_⟩, fun q => absurd ((on_le (by omega) (by omega)).mpr hwK) q⟩
    · rw [up_nk (by decide), up_nk (by decide)]; exact e1
    · rw [up_nk (by decide), up_nk (by decide)]; exact e2
    · rw [up_nk (by decide), up_at]
    · rw [up_at]
    · show V / 2 ^ w < 2 ^ (K - w)
      rw [Nat.div_lt_iff_lt_mul (Nat.two_pow_pos _), ← Nat.pow_add, show K - w + w = K by omega]
      exact hV
    · rw [up_nk (by decide), up_nk (by decide)]; exact g1
  by_cases q : w ≤ k
  · refine cut M (ca, ci) v k ⟨fun _ _ => rfl, fun _ _ => rfl⟩ hgd s1 s2 s3 s4 q (by omega) hv.1 (by omega) hi ha ?_
    unfold tc_f
    rw [if_pos q]
  · have htc : tc_f B w ((ca, ci), v, k) = (nb_f B (ca, ci)).map fun r => ((v + r.1 * 2 ^ k) % 2 ^ w, (r.2, (v + r.1 * 2 ^ k) / 2 ^ w, k + 8 - w)) := by unfold tc_f; rw [if_neg q]
    -- no good
    have bad : ∀ (M1 : rl_M) (K : Nat), gq_K M M1 → M1 84 22 = 0 → M1 84 25 = Int32.ofNat K → tc_f B w ((ca, ci), v, k) = none → mc_WP (98, 5, [.ref 84, .int (Int32.ofNat w), .null], [], (M1, J, rf_w r, sh_w N, n), (0, 0)) Q := fun M1 K k1 g1 e4 hnone => by
      have fin : ∀ x, Q (.inl (some (.int x))) (mc_up (mc_up M1 84 24 (M1 84 24 >>> (Int32.ofNat w &&& 31))) 84 25 (M1 84 25 - Int32.ofNat w), J, rf_w r, sh_w N, n) := fun x => hn _ x ⟨fun b z => by rw [up_ne z, up_ne z]; exact k1.1 b z, fun j z => by rw [up_nk (by omega), up_nk (by omega)]; exact k1.2 j z⟩ hnone (by rw [up_nk (by decide), up_nk (by decide)]; exact g1)
      refine bk_98_5 ⟨fun _ => ⟨fun _ => fin _, fun z => absurd g1 z⟩, fun _ => ⟨fun _ => ⟨fun _ => fin _, fun z => absurd g1 z⟩, fun z => absurd g1 z⟩⟩
    -- a byte of data
    have byte : ∀ (M1 : rl_M) (S : Option Nat) (i1 : Nat), gq_K M M1 → gd_is M1 S → sm_S S → M1 84 23 = Int32.ofNat i1 → 1 ≤ i1 → i1 < 256 → M1 84 24 = Int32.ofNat v → M1 84 25 = Int32.ofNat k → (∀ b, S = some b → b < B.1 → nb_f B (ca, ci) = some (B.2 b, (b + 1, i1 - 1))) → ((∀ b, S = some b → ¬ b < B.1) → nb_f B (ca, ci) = none) → mc_WP (mc_en 95 [.ref 84, .int 0, .int 255] (M1, J, rf_w r, sh_w N, n)) (mc_kr (fun u t => mc_WP (98, 52, [.ref 84, .int (Int32.ofNat w), .null], u.toList ++ [.int (Int32.ofNat v), .ref 84], t, (0, 0)) Q) fun k t => Q (.inr k) t) := fun M1 S i1 k1 g1 hs1 e2 hi1 hi2 e3 e4 hok hno => by
      have b1 : by_m M1 B := by_mg hb (k1.2 10 (by omega)) (k1.1 91 (by decide))
      refine cm_take (lo := 0) (hi := 255) hB b1 g1 hs1 (by decide) (by decide) fun M2 y k2 g2 _ w2 x2 _ => bk_98_52 ?_
      have e25 : M2 84 25 = Int32.ofNat k := by rw [k2.2 25 (by decide) (by decide)]; exact e4
      have e23 : M2 84 23 = Int32.ofNat i1 := by rw [k2.2 23 (by decide) (by decide)]; exact e2
      rw [e25, e23, bt_or2 hv.2 hv.1 (by omega), on_a8, show (1 : Int32) = Int32.ofNat 1 from rfl, on_sub hi1]
      generalize hM3 : mc_up (mc_up (mc_up M2 84 24 (Int32.ofNat (v + y * 2 ^ k))) 84 25 (Int32.ofNat (k + 8))) 84 23 (Int32.ofNat (i1 - 1)) = M3
      have K3 : gq_K M M3 := ⟨fun b z => by rw [← hM3, up_ne z, up_ne z, up_ne z, k2.1 b z]; exact k1.1 b z, fun j z => by rw [← hM3, up_nk (by omega), up_nk (by omega), up_nk (by omega), k2.2 j (by omega) (by omega)]; exact k1.2 j z⟩
      have e25' : M3 84 25 = Int32.ofNat (k + 8) := by rw [← hM3, up_nk (by decide), up_at]
      have e22' : M3 84 22 = M2 84 22 := by rw [← hM3, up_nk (by decide), up_nk (by decide), up_nk (by decide)]
      cases hS : tk_S B 0 255 S with
      | none =>
        rw [hS] at g2
        refine bad M3 (k + 8) K3 (e22'.trans g2) e25' ?_
        rw [htc, hno fun b hb' hlt => ?_]; rfl
        rw [hb', tkS_some ⟨hlt, by omega, by have := hB.2 b; omega⟩] at hS
        cases hS
      | some b' =>
        obtain ⟨b, t1, t2, t3⟩ := tkS_inv hS
        rw [hS] at g2
        have hy : y = B.2 b := x2 b t1 t2
        have hnb := hok b t1 t2.1
        rw [← hy] at hnb
        have hK2 : v + y * 2 ^ k < 2 ^ (k + 8) := by
          rw [Nat.pow_add, show (2 : Nat) ^ 8 = 256 from rfl]
          have : y * 2 ^ k ≤ 255 * 2 ^ k := Nat.mul_le_mul_right _ w2
          have := hv.1
          omega
        refine cut M3 (b + 1, i1 - 1) (v + y * 2 ^ k) (k + 8) K3 (e22'.trans g2.2) ?_ ?_ ?_ e25' (by omega) (by omega) hK2 (by omega) (by show i1 - 1 < 256; omega) (by show b + 1 ≤ B.1; have := t2.1; omega) (by rw [htc, hnb]; rfl)
        · rw [← hM3, up_nk (by decide), up_nk (by decide), up_nk (by decide), g2.1, t3]
        · rw [← hM3, up_at]
        · rw [← hM3, up_nk (by decide), up_nk (by decide), up_at]
    refine bk_98_5 ?_
    rw [s4, s3, s2]
    refine ⟨fun z => absurd ((on_le (by omega) (by omega)).mp z) q, fun _ => ⟨fun z => absurd (hgd.symm.trans z) (by decide), fun _ => ⟨fun z => mc_inl ?_, fun z => mc_inl ?_⟩⟩⟩
    · have hci : ¬ ci = 0 := fun y => z (by rw [y]; rfl)
      refine byte M (some ca) ci ⟨fun _ _ => rfl, fun _ _ => rfl⟩ ⟨s1, hgd⟩ (fun b hb' => by cases hb'; omega) s2 (by omega) hi s3 s4 (fun b hb' hlt => ?_) (fun hall => ?_)
      · cases hb'
        unfold nb_f
        rw [if_neg hci, if_pos hlt]
      · have := hall ca rfl
        unfold nb_f
        rw [if_neg hci, if_neg this]
    · have hci : ci = 0 := (on_eq (m := 0) (by omega) (by omega)).mp (Classical.not_not.mp z)
      subst hci
      refine cm_take (lo := 1) (hi := 255) (S := some ca) hB hb ⟨s1, hgd⟩ (fun b hb' => by cases hb'; omega) (by decide) (by decide) fun M1 y k1 g1 u1 w1 x1 _ => bk_98_36 (mc_inl ?_)
      have e24 : M1 84 24 = Int32.ofNat v := by rw [k1.2 24 (by decide) (by decide)]; exact s3
      rw [e24]
      refine byte _ (tk_S B 1 255 (some ca)) y ⟨fun b z => by rw [up_ne z]; exact k1.1 b z, fun j z => by rw [up_nk (by omega)]; exact k1.2 j (by omega) (by omega)⟩ (gd_cg g1 (up_nk (by decide)) (up_nk (by decide))) (sm_tk hB) up_at u1 (by omega) (by rw [up_nk (by decide)]; exact e24) (by rw [up_nk (by decide), k1.2 25 (by decide) (by decide)]; exact s4) (fun b hb' hlt => ?_) (fun hall => ?_)
      · obtain ⟨b0, t1, t2, t3⟩ := tkS_inv hb'
        cases t1
        subst t3
        unfold nb_f
        rw [if_pos rfl, if_pos ⟨hlt, t2.2.1⟩, x1 _ rfl t2]
      · unfold nb_f
        rw [if_pos rfl]
        by_cases ht : tk_v B ca 1 255
        · have := hall (ca + 1) (tkS_some ht)
          rw [if_neg fun y => this y.1]
        · rw [if_neg fun y => ht ⟨by have : ca + 1 < B.1 := y.1; omega, y.2, by have := hB.2 ca; omega⟩]
end
