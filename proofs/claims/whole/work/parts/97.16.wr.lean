/-! write: the class's reel -/
section
variable {I M M' : rl_M} {J : Nat → Nat → Int64} {r N n f : Nat} {Q : mc_Q} {hs cs ps : rl_A} {c : rl_M} {cnt b : Int32} {L : List Int32}
def bw_f (hs : rl_A) (f : Nat) : Nat := (hs (9 * (f + 1) + 4)).toNatClampNeg
def eb_f (hs : rl_A) (f : Nat) : Nat := if bw_f hs f = 0 then (hs 4).toNatClampNeg else bw_f hs f
def ww_f (hs : rl_A) (f : Nat) : Nat := (hs (9 * (f + 1) + 2)).toNatClampNeg
def hh_f (hs : rl_A) (f : Nat) : Nat := (hs (9 * (f + 1) + 3)).toNatClampNeg
def px_f (hs ps : rl_A) (f : Nat) : List Int32 := fp_l (ww_f hs f) (hh_f hs f) (hs (9 * (f + 1) + 8)) fun q => ps (64 * f + q)
def wl_0 (hs cs : rl_A) : List Int32 := [] ++ [80] ++ [49] ++ [hs 2] ++ [hs 3] ++ [hs 4 - 1] ++ pl_l cs (cn_b (hs 4).toNatClampNeg)
def wl_h (hs cs : rl_A) (f : Nat) (L : List Int32) : List Int32 := ff_h (hs (9 * (f + 1))) (hs (9 * (f + 1) + 1)) (hs (9 * (f + 1) + 2)) (hs (9 * (f + 1) + 3)) (hs (9 * (f + 1) + 8)) (bw_f hs f) (fun j => cs (16 * (f + 1) + j)) (ff_s (hs (9 * (f + 1) + 5)) (hs (9 * (f + 1) + 6)) (hs (9 * (f + 1) + 7)) L)
/-- the bytes of a reel -/
noncomputable def wl_f (hs cs ps : rl_A) : Nat → List Int32
  | 0 => wl_0 hs cs
  | f + 1 => ff_d (max 2 (eb_f hs f)) (px_f hs ps f) (wl_h hs cs f (wl_f hs cs ps f))
theorem cnb (h : 0 ≤ b.toInt ∧ b.toInt ≤ 4) : b = Int32.ofNat b.toNatClampNeg ∧ b.toNatClampNeg ≤ 4 ∧ rl_cnt b = Int32.ofNat (cn_b b.toNatClampNeg) ∧ (b = 0 ↔ b.toNatClampNeg = 0) := by
  rcases cnt_c h with rfl | rfl | rfl | rfl | rfl <;> exact ⟨rfl, by decide, rfl, by decide⟩
/-- what the relation says of a frame, in numbers -/
theorem fx_ok (hR : rb_R c cnt hs cs ps) (hf : (f : Int) < cnt.toInt) :
    (hs (9 * (f + 1) + 2) = Int32.ofNat (ww_f hs f) ∧ 1 ≤ ww_f hs f ∧ ww_f hs f ≤ 8) ∧ (hs (9 * (f + 1) + 3) = Int32.ofNat (hh_f hs f) ∧ 1 ≤ hh_f hs f ∧ hh_f hs f ≤ 8) ∧ (hs (9 * (f + 1) + 8) = 0 ∨ hs (9 * (f + 1) + 8) = 1) ∧
    (hs (9 * (f + 1) + 4) = Int32.ofNat (bw_f hs f) ∧ bw_f hs f ≤ 4) ∧ (1 ≤ eb_f hs f ∧ eb_f hs f ≤ 4) ∧ (rb_n hs f = Int32.ofNat (2 ^ eb_f hs f)) ∧ (∀ y z, y < hh_f hs f → z < ww_f hs f → ∃ j, j < 2 ^ eb_f hs f ∧ ps (64 * f + (8 * y + z)) = Int32.ofNat j ∧ c (4 + 4 * f + 1) (8 * y + z) = Int32.ofNat j) ∧ f < 4 := by
  obtain ⟨h1, h2, h3, h4, h5, h6, h7, h8, h9, h10⟩ := hR
  obtain ⟨a1, a2, a3, a4, a5, a6, a7, a8, a9, a10, a11, a12⟩ := h10 f hf
  have w := i3_tn (hs (9 * (f + 1) + 2))
  have hh := i3_tn (hs (9 * (f + 1) + 3))
  have e4 := cnb a11.1
  have e0 := cnb (b := hs 4) h9.1
  have s0 := i3_tn (hs 4)
  have eb : rb_n hs f = Int32.ofNat (2 ^ eb_f hs f) ∧ 1 ≤ eb_f hs f ∧ eb_f hs f ≤ 4 := by
    unfold rb_n eb_f bw_f
    by_cases q : hs (9 * (f + 1) + 4) = 0
    · rw [if_pos q, if_pos (e4.2.2.2.mp q), e0.2.2.1]
      have : ¬ (hs 4).toNatClampNeg = 0 := by omega
      exact ⟨by unfold cn_b; rw [if_neg this], by omega, e0.2.1⟩
    · have q' : ¬ (hs (9 * (f + 1) + 4)).toNatClampNeg = 0 := fun z => q (e4.2.2.2.mpr z)
      rw [if_neg q, if_neg q', e4.2.2.1]
      exact ⟨by unfold cn_b; rw [if_neg q'], by omega, e4.2.1⟩
  have p16 := p2_16 eb.2.2
  refine ⟨⟨on_of (by omega), ?_, ?_⟩, ⟨on_of (by omega), ?_, ?_⟩, a10, ⟨e4.1, e4.2.1⟩, eb.2, eb.1, fun y z hy hz => ?_, by omega⟩
  · unfold ww_f; omega
  · unfold ww_f; omega
  · unfold hh_f; omega
  · unfold hh_f; omega
  · unfold hh_f at hy
    unfold ww_f at hz
    obtain ⟨p1, p2, p3⟩ := (a12 y (by omega) z (by omega)).1 ⟨by omega, by omega⟩
    rw [eb.1, on_t (by omega)] at p3
    rw [p1, ← Nat.add_assoc]
    refine ⟨(ps (64 * f + 8 * y + z)).toNatClampNeg, ?_, on_of p2, on_of p2⟩
    have := i3_tn (ps (64 * f + 8 * y + z))
    omega
theorem px_ok (hR : rb_R c cnt hs cs ps) (hf : (f : Int) < cnt.toInt) : (px_f hs ps f).length ≤ 64 ∧ vl_p (2 ^ max 2 (eb_f hs f)) (px_f hs ps f) ∧ px_f hs ps f = fp_l (ww_f hs f) (hh_f hs f) (hs (9 * (f + 1) + 8)) (c (4 + 4 * f + 1)) := by
  obtain ⟨f1, f2, f3, f4, f5, f6, f7, f8⟩ := fx_ok hR hf
  have hmul : hh_f hs f * ww_f hs f ≤ 64 := Nat.le_trans (Nat.mul_le_mul f2.2.2 f1.2.2) (by decide)
  have hme : 2 ^ eb_f hs f ≤ 2 ^ max 2 (eb_f hs f) := Nat.pow_le_pow_right (by decide) (by omega)
  refine ⟨?_, ?_, ?_⟩
  · unfold px_f; rw [fp_len f3 f2.2.2]; exact hmul
  · unfold px_f
    refine fp_v f3 f2.2.2 fun y z hy hz => ?_
    obtain ⟨j, j1, j2, _⟩ := f7 y z hy hz
    exact ⟨j, by omega, j2⟩
  · unfold px_f fp_l
    refine List.map_congr_left fun q hq => ?_
    obtain ⟨y, z, y1, z1, e⟩ := pw_mem hq
    obtain ⟨j, j1, j2, j3⟩ := f7 y z ((rwo_ok f2.2.2 f3).2 y y1) z1
    rw [e, j2, j3]
theorem wlf_len (hR : rb_R c cnt hs cs ps) : ∀ f : Nat, (f : Int) ≤ cnt.toInt → (wl_f hs cs ps f).length ≤ 53 + 163 * f
  | 0, _ => by
    have e0 := cnb (b := hs 4) hR.2.2.2.2.2.2.2.2.1.1
    have := cn_16 e0.2.1
    show (wl_0 hs cs).length ≤ _
    unfold wl_0
    simp [pl_len]
    omega
  | f + 1, hf => by
    have ih := wlf_len hR f (by omega)
    obtain ⟨f1, f2, f3, f4, f5, f6, f7, f8⟩ := fx_ok hR (f := f) (by omega)
    obtain ⟨p1, p2, p3⟩ := px_ok hR (f := f) (by omega)
    have := cn_16 f4.2
    have h1 := ffd_len (L := wl_h hs cs f (wl_f hs cs ps f)) (m := max 2 (eb_f hs f)) (by omega) p1 p2
    have h2 : (wl_h hs cs f (wl_f hs cs ps f)).length = (wl_f hs cs ps f).length + 4 + 6 + 3 * cn_b (bw_f hs f) := by unfold wl_h; rw [ffh_len, ffs_len]
    show (ff_d _ _ _).length ≤ _
    omega
theorem R_lt (h : is_R r) : r = 14 ∨ r = 34 := by simp only [is_R, List.mem_cons, List.not_mem_nil, or_false] at h; exact h
theorem cc_reel (hr : is_R r) (hR : rb_R (rl_v r M) (M 84 1) (M 85) (M 86) (M 87)) (hK : ∀ a, 2 ≤ a → a ≤ 4 → M a = st_w a) (ho : oc_is M [])
    (hk : ∀ M', cw_K M M' → oc_is M' (wl_f (M 85) (M 86) (M 87) (M 84 1).toNatClampNeg ++ [59]) → Q (.inl none) (M', J, rf_w r, sh_w N, n)) :
    mc_WP (mc_en 144 [.ref 56, .ref r] (M, J, rf_w r, sh_w N, n)) Q := by
  have hr2 := R_lt hr
  obtain ⟨g1, g2, g3, g4, g5, g6, g7, g8, g9, g10⟩ := id hR
  have hcn := i3_tn (M 84 1)
  have hc4 : M 84 1 = Int32.ofNat (M 84 1).toNatClampNeg := on_of (by omega)
  have v0 : ∀ o k, o < 20 → M (r + o) k = rl_v r M o k := fun o k h => (rl_v0 M r o k h).symm
  have e0 := cnb (b := M 85 4) g9.1
  have s0 := i3_tn (M 85 4)
  have h16 := cn_16 e0.2.1
  have hsb : 1 ≤ (M 85 4).toNatClampNeg := by omega
  have ecn : cn_b (M 85 4).toNatClampNeg = 2 ^ (M 85 4).toNatClampNeg := if_neg (by omega)
  have m1 : M (r + 1) 1 = Int32.ofNat (cn_b (M 85 4).toNatClampNeg) := by rw [v0 1 1 (by decide), g9.2.1, e0.2.2.1]
  have en : ∀ M2, oc_K M M2 → ∀ b, b < 54 → M2 b = M b := fun M2 k2 b hb => k2.1 b (by omega) (by omega)
  refine bk_144_0 hr (mc_inl (cc_put ho (by decide) fun M1 k1 o1 => bk_144_9 hr (mc_inl (cc_put o1 (by simp) fun M2 k2 o2 => bk_144_18 hr (mc_inl ?_)))))
  have k12 := k1.tr k2
  rw [en M2 k12 r (by omega), show M r 2 = M 85 2 from (v0 0 2 (by decide)).trans g3]
  refine cc_put o2 (by simp) fun M3 k3 o3 => bk_144_29 hr (mc_inl ?_)
  have k13 := k12.tr k3
  rw [en M3 k13 r (by omega), show M r 3 = M 85 3 from (v0 0 3 (by decide)).trans g4]
  refine cc_put o3 (by simp) fun M4 k4 o4 => bk_144_40 hr (mc_inl ?_)
  have k14 := k13.tr k4
  rw [en M4 k14 (r + 1) (by omega), m1]
  refine cc_pbits h16 ?_
  refine bk_144_54 hr (by decide) (mc_inl ?_)
  rw [ecn, pb_2 hsb e0.2.1, ← e0.1]
  refine cc_put o4 (by simp) fun M5 k5 o5 => bk_144_59 hr (mc_inl ?_)
  have k15 := k14.tr k5
  refine cc_pal (wd_R (r := r) (N := N) hr).2.2.2.2.1 o5 (by rw [en M5 k15 (r + 1) (by omega)]; exact m1) h16 (by simp; omega) fun M6 k6 o6 => bk_144_67 hr ?_
  have w6 : cw_K M M6 := cw_oc (k15.tr k6)
  rw [en M5 k15 (r + 1 + 1) (by omega), pl_eq (c2 := M 86) (cn_b (M 85 4).toNatClampNeg) (fun j hj => by rw [Nat.add_assoc, v0 (1 + 1) j (by decide), (g9.2.2 j (by omega)).1, Nat.mul_zero, Nat.zero_add])] at o6
  refine lp_go (C := fun f (i : rl_M × Value) => (144, 69, [.ref 56, .ref r, .int (Int32.ofNat f), i.2], [], (i.1, J, rf_w r, sh_w N, n), (0, 0))) (P := fun f i => cw_K M i.1 ∧ oc_is i.1 (wl_f (M 85) (M 86) (M 87) f)) (M 84 1).toNatClampNeg (M6, .null) ⟨w6, o6⟩ ?_ ?_
  · intro f hf ⟨Mf, z3⟩ ⟨wf, of⟩ ih
    dsimp only at wf of ih ⊢
    have hfi : (f : Int) < (M 84 1).toInt := by omega
    obtain ⟨f1, f2, f3, f4, f5, f6, f7, f8⟩ := fx_ok hR hfi
    obtain ⟨p1, p2, p3⟩ := px_ok hR hfi
    obtain ⟨a1, a2, a3, a4, a5, a6, a7, a8, a9, a10, a11, a12⟩ := g10 f hfi
    have hF : is_F (r + 4 + 4 * f) := is_Ff hr f8
    have hlt := F_lt hF
    have hl := wlf_len hR f (by omega)
    have h4 := cn_16 f4.2
    have bb : ∀ M2, cw_K M M2 → ∀ b, b < 54 → M2 b = M b := fun M2 k2 b hb => k2 b (Or.inl hb)
    have v2 : ∀ k, k < 4 → M (r + 4 + 4 * f) (2 + k) = M 85 (9 * (f + 1) + k) := fun k hk' => by rw [fv_0 (I := M) f8]; exact a1 k hk'
    have v6 : ∀ k, k < 4 → M (r + 4 + 4 * f) (6 + k) = M 85 (9 * (f + 1) + 5 + k) := fun k hk' => by rw [fv_0 (I := M) f8]; exact a2 k hk'
    have vp : M (r + 4 + 4 * f + 2) 1 = Int32.ofNat (cn_b (bw_f (M 85) f)) := by rw [fv_2 (I := M) f8, a11.2.1]; exact (cnb a11.1).2.2.1
    refine bk_144_69 hr ?_
    rw [bb Mf wf r (by omega), show M r 4 = M 84 1 from (v0 0 4 (by decide)).trans g2, hc4, on_n (by omega)]
    refine ⟨fun q => absurd ((on_le (by omega) (by omega)).mp q) (by omega), fun _ => ⟨on_vp (by omega) f8, mc_inl ?_⟩⟩
    refine cc_sett (dsp := M 85 (9 * (f + 1) + 5)) (dly := M 85 (9 * (f + 1) + 6)) (clr := M 85 (9 * (f + 1) + 7)) hF of (by omega) (by rw [bb Mf wf _ (by omega)]; exact v6 0 (by decide)) (by rw [bb Mf wf _ (by omega)]; exact v6 1 (by decide)) (by rw [bb Mf wf _ (by omega)]; exact v6 2 (by decide)) fun Ma ka oa => bk_144_89 hr hF (mc_inl ?_)
    have wa := wf.tr (cw_oc ka)
    refine cc_head (x := M 85 (9 * (f + 1))) (y := M 85 (9 * (f + 1) + 1)) (w := M 85 (9 * (f + 1) + 2)) (h := M 85 (9 * (f + 1) + 3)) (wv := M 85 (9 * (f + 1) + 8)) (b := bw_f (M 85) f) (cs := fun j => M 86 (16 * (f + 1) + j)) hF oa (by rw [ffs_len]; omega) (by rw [bb Ma wa _ (by omega)]; exact v2 0 (by decide)) (by rw [bb Ma wa _ (by omega)]; exact v2 1 (by decide)) (by rw [bb Ma wa _ (by omega)]; exact v2 2 (by decide)) (by rw [bb Ma wa _ (by omega)]; exact v2 3 (by decide)) (by rw [bb Ma wa _ (by omega)]; exact v6 3 (by decide)) f3 f4.2 (by rw [bb Ma wa _ (by omega)]; exact vp) (fun j hj => by rw [bb Ma wa _ (by omega), fv_3 (I := M) f8]; exact (a11.2.2 j (by omega)).1) fun Mb kb ob => bk_144_94 hr hF (mc_inl ?_)
    have wb := wa.tr (cw_oc kb)
    have last : ∀ pq, is_P pq → Mb pq 1 = Int32.ofNat (2 ^ eb_f (M 85) f) → mc_WP (144, 101, [.ref 56, .ref r, .int (Int32.ofNat f), .ref (r + 4 + 4 * f)], [.ref pq, .ref (r + 4 + 4 * f), .ref 56], (Mb, J, rf_w r, sh_w N, n), (0, 0)) Q := fun pq hpq he => by
      refine bk_144_101 hr hF hF hpq (mc_inl ?_)
      rw [he]
      have epx : Mb (r + 4 + 4 * f + 1) = rl_v r M (4 + 4 * f + 1) := by
        rw [bb Mb wb _ (by omega)]
        funext k
        exact fv_1 (I := M) f8
      refine cc_fd hF ob (by rw [ffh_len, ffs_len]; omega) f5 (W := ww_f (M 85) f) (H := hh_f (M 85) f) (by rw [bb Mb wb _ (by omega), ← f1.1]; exact v2 2 (by decide)) (by rw [bb Mb wb _ (by omega), ← f2.1]; exact v2 3 (by decide)) f1.2.2 f2.2.2 (by rw [bb Mb wb _ (by omega)]; exact v6 3 (by decide)) f3 (fun a q1 q2 => by rw [bb Mb wb a (by omega)]; exact hK a q1 q2) (fun y z hy hz => ?_) fun Mc kc oc => bk_144_107 hr hF ?_
      · obtain ⟨j, j1, _, j3⟩ := f7 y z hy hz
        exact ⟨j, j1, by rw [epx]; exact j3⟩
      · rw [on_1]
        refine ih (Mc, _) ⟨wb.tr kc, ?_⟩
        rw [epx] at oc
        show oc_is Mc (ff_d _ (px_f (M 85) (M 87) f) _)
        rw [p3]
        exact oc
    refine bk_191_0 hr hF ?_
    rw [bb Mb wb _ (by omega), vp]
    refine ⟨fun q => ?_, fun q => ?_⟩
    · have hz : bw_f (M 85) f = 0 := by
        have := (on_le (m := 0) (by omega) (by omega)).mp q
        unfold cn_b at this
        split at this
        · assumption
        · have := Nat.two_pow_pos (bw_f (M 85) f); omega
      refine last (r + 1) (wd_R (r := r) (N := N) hr).2.2.2.2.1 ?_
      rw [bb Mb wb _ (by omega), m1, ecn]
      unfold eb_f
      rw [if_pos hz]
    · have hz : ¬ bw_f (M 85) f = 0 := fun z => q (by rw [z]; decide)
      refine last (r + 4 + 4 * f + 2) (wd_F (r := r) (N := N) hF).2.2.2.2.2 ?_
      rw [bb Mb wb _ (by omega), vp]
      unfold eb_f cn_b
      rw [if_neg hz, if_neg hz]
  · intro ⟨Mf, z3⟩ ⟨wf, of⟩
    dsimp only at wf of ⊢
    have hl := wlf_len hR (M 84 1).toNatClampNeg (by omega)
    refine bk_144_69 hr ?_
    rw [wf r (by omega), show M r 4 = M 84 1 from (v0 0 4 (by decide)).trans g2]
    refine ⟨fun _ => mc_inl (cc_put of (by omega) fun M7 k7 o7 => bk_144_122 hr (hk M7 (wf.tr (cw_oc k7)) o7)), fun q => absurd ?_ q⟩
    rw [← hc4]
    exact Int32.le_refl _
end
