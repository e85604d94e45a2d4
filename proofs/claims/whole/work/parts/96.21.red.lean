/-! reduce: the law's case -/
section
variable {I M M' F A : rl_M} {J : Nat → Nat → Int64} {r N n : Nat} {Q : mc_Q} {mn : Nat → Int32} {mode x1 x2 x4 : Int32} {x5 x6 : Value} {u : mc_U} {nb k b W H f most : Nat} {O E : rl_A}
theorem ry_G {pc : rl_A} (hp : ∀ k, k < 64 → 0 ≤ (pc k).toInt ∧ (pc k).toInt < 16777216) (h8 : (1 ≤ W ∧ W ≤ 8) ∧ 1 ≤ H ∧ H ≤ 8) : rd_G (ry_l pc W H) := by
  obtain ⟨c1, c2, c3⟩ := ry_cu (W := W) hp (by omega) H (by omega)
  have hle : H * W ≤ 8 * 8 := Nat.mul_le_mul (by omega) (by omega)
  have hge : 1 * 1 ≤ H * W := Nat.mul_le_mul (by omega) (by omega)
  refine ⟨fun q => ?_, c1, c2, by rw [c3]; omega⟩
  rw [q] at c3
  have : (0 : Int) = ((H * W : Nat) : Int) := c3
  omega
/-- a reel with one more frame, brought to few colours -/
theorem rl_I.reduce (h : rl_I r I) (hf : I 84 1 = Int32.ofNat f) (hf4 : f < 4) (h8 : (1 ≤ W ∧ W ≤ 8) ∧ 1 ≤ H ∧ H ≤ 8) (hnb : 1 ≤ nb ∧ nb ≤ 16) (hmn : ∀ k, k < nb → 0 ≤ (mn k).toInt ∧ (mn k).toInt < 16777216) (hO : rw_ok nb mode W H (E, O))
    (hM : cr_K (ad_M I r 0 0 (Int32.ofNat W) (Int32.ofNat H)) M (r + 4 + 4 * f) nb mn O) (hF : mr_K M F f nb W H mn O) : rl_I r F := by
  obtain ⟨hr, hR, hB, hP, hC, hK⟩ := h
  have hb := is_Rb hr
  have e4 : I r 4 = I 84 1 := by have := hR.2.1; rw [rl_v0 _ _ _ _ (by decide)] at this; exact this
  have hfn : (I r 4).toNatClampNeg = f := by rw [e4, hf, on_n (by omega)]
  obtain ⟨m1, m2, m3, m4, m5⟩ := hM
  obtain ⟨f1, ⟨g0, g1, g10⟩, f3, ⟨v0, v1, v2, v3, v4, v5, v6, v7, v8⟩, f5, f6, f7, f8⟩ := hF
  obtain ⟨p1, p2, p3, p4, p5⟩ := pb_b (nb := nb) hnb.2
  -- the class's rows behind all
  have A1 : ∀ b, ¬ b = r → ¬ (r + 4 + 4 * f ≤ b ∧ b ≤ r + 4 + 4 * f + 3) → ad_M I r 0 0 (Int32.ofNat W) (Int32.ofNat H) b = I b := fun b q1 q2 => ad_row q1 (by rw [hfn]; exact q2)
  have Aa : ∀ k, ad_M I r 0 0 (Int32.ofNat W) (Int32.ofNat H) (r + 4 + 4 * f) k = fb_8 I (r + 4 + 4 * f) 0 0 (Int32.ofNat W) (Int32.ofNat H) (r + 4 + 4 * f) k := fun k => by
    unfold ad_M
    rw [up_ne (by omega), hfn, fb_a]
  have Ar : ∀ k, ad_M I r 0 0 (Int32.ofNat W) (Int32.ofNat H) r k = if k = 4 then I r 4 + 1 else I r k := fun k => by
    unfold ad_M
    by_cases hk : k = 4
    · subst hk; rw [up_at, if_pos rfl]
    · rw [up_nk hk, if_neg hk, fb_ne (by rw [hfn]; omega) (by rw [hfn]; omega) (by rw [hfn]; omega) (by rw [hfn]; omega)]
  have M84 : ∀ b, 84 ≤ b → M b = I b := fun b hb' => by rw [m1 b (by omega) (by omega), A1 b (by omega) (by omega)]
  have Fl : ∀ b, b < 84 → F b = M b := fun b hb' => f1 b (by omega) (by omega)
  have cl : ∀ o k, o < 20 → rl_v r F o k = M (r + o) k := fun o k ho => by rw [rl_v0 _ _ _ _ ho, Fl _ (by omega)]
  have far : ∀ b, b < 84 → ¬ b = r → ¬ (r + 4 + 4 * f ≤ b ∧ b ≤ r + 4 + 4 * f + 3) → ¬ (76 ≤ b ∧ b ≤ 83) → F b = I b := fun b q0 q1 q2 q3 => by rw [Fl b q0, m1 b (by omega) q3, A1 b q1 q2]
  have z4 : ¬ Int32.ofNat (pb_v nb) = 0 := fun q => by
    rw [show (0 : Int32) = Int32.ofNat 0 from rfl, on_eq (by omega) (by omega)] at q
    omega
  have hrn : rb_n (F 85) f = Int32.ofNat (2 ^ pb_v nb) := by
    unfold rb_n
    rw [v4, if_neg z4, p4]
  have hrt : (rb_n (F 85) f).toInt = ((2 ^ pb_v nb : Nat) : Int) := by rw [hrn, on_t (by omega)]
  refine ⟨hr, ?_, ?_, ?_, ?_, ?_⟩
  · rw [g1, M84 84 (by decide)]
    refine hR.add (f := f) (by rw [hf, on_t (by omega)]) hf4 ?_ (fun o k q1 q2 => ?_) (fun k hk => by rw [f3 k hk, M84 85 (by decide)]) (fun k hk => by rw [f5 k hk, M84 86 (by decide)]) (fun k hk => by rw [f7 k hk, M84 87 (by decide)]) ?_
    · rw [cl 0 4 (by decide)]
      show M r 4 = _
      rw [m1 r (by omega) (by omega), Ar, if_pos rfl, e4]
    · by_cases ho : o < 20
      · rw [cl o k ho, rl_v0 _ _ _ _ ho]
        by_cases h0 : o = 0
        · subst h0
          show M r k = I r k
          rw [m1 r (by omega) (by omega), Ar, if_neg (by omega)]
        · rw [m1 _ (by omega) (by omega), A1 _ (by omega) (by omega)]
      · unfold rl_v; rw [if_neg ho, if_neg ho]
    · obtain ⟨w0, w1, w2, w3, w4, w5, w6, w7⟩ := fb_v (I := I) (a := r + 4 + 4 * f) (x1 := 0) (x2 := 0) (x3 := Int32.ofNat W) (x4 := Int32.ofNat H)
      have ca : ∀ k, rl_v r F (4 + 4 * f) k = fb_8 I (r + 4 + 4 * f) 0 0 (Int32.ofNat W) (Int32.ofNat H) (r + 4 + 4 * f) k := fun k => by
        rw [cl _ _ (by omega), show r + (4 + 4 * f) = r + 4 + 4 * f by omega, m1 _ (by omega) (by omega), Aa]
      refine ⟨fun k hk => ?_, fun k hk => ?_, by rw [v0]; decide, by rw [v1]; decide, by rw [v2, on_t (by omega)]; omega, by rw [v3, on_t (by omega)]; omega, by rw [v5]; decide, by rw [v6]; decide, by rw [v7, hrt, i3_m1]; omega, by rw [v8]; exact Or.inl rfl, ⟨?_, ?_, fun k hk => ⟨?_, ?_, ?_⟩⟩, fun y hy z hz => ⟨fun q => ⟨?_, ?_⟩, fun q => ?_⟩⟩
      · rw [ca]
        match k, hk with
        | 0, _ => exact w0.trans v0.symm
        | 1, _ => exact w1.trans v1.symm
        | 2, _ => exact w2.trans v2.symm
        | 3, _ => exact w3.trans v3.symm
      · rw [ca]
        match k, hk with
        | 0, _ => exact w4.trans v5.symm
        | 1, _ => exact w5.trans v6.symm
        | 2, _ => exact w6.trans v7.symm
        | 3, _ => exact w7.trans v8.symm
      · rw [v4, on_t (by omega)]; omega
      · rw [cl _ _ (by omega), show r + (4 + 4 * f + 2) = r + 4 + 4 * f + 2 by omega, m2, v4, p4]
      · rw [cl _ _ (by omega), show r + (4 + 4 * f + 2 + 1) = r + 4 + 4 * f + 3 by omega, m4 k hk, f6 k hk]
      · rw [f6 k hk]
        split
        · exact hmn k (by assumption)
        · decide
      · intro q
        rw [v4, p4, on_t (by omega)] at q
        rw [f6 k hk, if_neg (by omega)]
      · rw [cl _ _ (by omega), show r + (4 + 4 * f + 1) = r + 4 + 4 * f + 1 by omega, m5 _ (by omega), Nat.add_assoc (64 * f), f8 _ (by omega)]
      · obtain ⟨i, i1, i2⟩ := hO.1 (8 * y + z)
        have i2' : O (8 * y + z) = Int32.ofNat i := i2
        rw [hrt, Nat.add_assoc (64 * f), f8 _ (by omega), i2', on_t (by omega)]
        omega
      · rw [v2, v3, on_t (by omega), on_t (by omega)] at q
        rw [cl _ _ (by omega), show r + (4 + 4 * f + 1) = r + 4 + 4 * f + 1 by omega, m5 _ (by omega)]
        exact hO.2.1 z y hz hy (by omega)
  · rw [far 54 (by decide) (by omega) (by omega) (by decide), far 55 (by decide) (by omega) (by omega) (by decide), g10, M84 84 (by decide), f1 91 (by decide) (by decide), M84 91 (by decide)]
    exact hB
  · rw [far 75 (by decide) (by omega) (by omega) (by decide), f1 92 (by decide) (by decide), M84 92 (by decide)]
    exact hP
  · rw [far 12 (by decide) (by omega) (by omega) (by decide), f1 93 (by decide) (by decide), M84 93 (by decide)]
    exact hC
  · refine ⟨fun p hp => ?_, fun a q1 q2 => by rw [far a (by omega) (by omega) (by omega) (by omega)]; exact hK.2.1 a q1 q2, fun k q1 => by rw [f1 88 (by decide) (by decide), M84 88 (by decide)]; exact hK.2.2 k q1⟩
    have hp' := hp
    simp only [is_P, List.mem_cons, List.not_mem_nil, or_false] at hp'
    rw [Fl p (by omega)]
    by_cases q : p = r + 4 + 4 * f + 2
    · rw [q, m2, on_t (by omega)]; omega
    · rw [m1 p (by omega) (by omega)]
      unfold ad_M
      rw [up_nk (by decide)]
      exact (hK.begin (is_Ff hr (by rw [hfn]; exact hf4))).1 p hp
def rc_in (x1 x2 : Int32) : Prop := (1 ≤ x1.toInt ∧ x1.toInt ≤ 16) ∧ 0 ≤ x2.toInt ∧ x2.toInt ≤ 2
set_option maxHeartbeats 2000000 in
theorem lc_reduce (hI : rl_I r I) (hN : N ≤ 3074) (hx : 0 ≤ x4.toInt ∧ x4.toInt + 6 ≤ N) (hu : u.1 + 3 ≤ 601024 ∧ u.2 + 18 ≤ 7293000) (hn : lw_nx N x4 u Q) : mc_WP (42, 1175, [.ref 1, .ref 10, .ref 84, .ref 105, .int x4, x5, x6], [], (I, J, rf_w r, sh_w N, n), u) Q := by
  have hI' := hI
  obtain ⟨hr, hR, hB, hP, hC, hK⟩ := hI
  have hb := is_Rb hr
  have h0 := hR.1
  have e4 : I r 4 = I 84 1 := by have := hR.2.1; rw [rl_v0 _ _ _ _ (by decide)] at this; exact this
  obtain ⟨f, hf, hft, hfn, -⟩ := on_get (v := I 84 1) (by omega)
  have h5 := hR.2.2.2.2.1
  have h6 := hR.2.2.2.2.2.1
  obtain ⟨W, w1, w2, -, -⟩ := on_get (v := I 85 2) (by omega)
  obtain ⟨H, k1, k2, -, -⟩ := on_get (v := I 85 3) (by omega)
  have c2 : I r 2 = Int32.ofNat W := by have := hR.2.2.1; rw [rl_v0 _ _ _ _ (by decide)] at this; rw [← w1]; exact this
  have c3 : I r 3 = Int32.ofNat H := by have := hR.2.2.2.1; rw [rl_v0 _ _ _ _ (by decide)] at this; rw [← k1]; exact this
  have h8 : (1 ≤ W ∧ W ≤ 8) ∧ 1 ≤ H ∧ H ≤ 8 := by omega
  have hpc : ∀ k, k < 64 → 0 ≤ (I 92 k).toInt ∧ (I 92 k).toInt < 16777216 := fun k hk => (hP k hk).2
  refine bk_42_1175 ⟨lw_i hN hx (by decide), lw_i hN hx (by decide), by omega, by omega, mc_inl ?_⟩
  generalize ha1 : I 1 (x4 + 1).toNatClampNeg = a1
  generalize ha2 : I 1 (x4 + 2).toNatClampNeg = a2
  -- both refuse
  have bad1 : ¬ rc_in a1 a2 → mc_WP (42, 1192, [.ref 1, .ref 10, .ref 84, .ref 105, .int x4, x5, x6], [.int 1], (I, J, rf_w r, sh_w N, 0), (u.1 + 2, u.2 + 12)) Q := fun hno => by
    refine bk_42_1192 ⟨lw_i hN hx (by decide), lw_i hN hx (by decide), by show u.1 + 2 + 0 ≤ _; omega, by show u.2 + 12 + 0 ≤ _; omega, mc_inl ?_⟩
    rw [ha1, ha2]
    have fin : mc_kr (fun v t => mc_WP (42, 1210, [.ref 1, .ref 10, .ref 84, .ref 105, .int x4, .int 1, x6], v.toList ++ [], t, (u.1 + 2, u.2 + 12)) Q) (fun k t => Q (.inr k) t) (.inl (some (.int 0))) (mc_up I 84 0 1, J, rf_w r, sh_w N, 0) :=
      le_1210 hI'.thr up_at (fun q => absurd q (by decide)) hu (by constructor <;> show _ + _ ≤ _ <;> omega) hn
    unfold rc_in at hno
    refine bk_124_0 (mc_inl ?_)
    refine cm_outside (fun q1 => ?_) (fun _ => bk_124_8 ⟨fun _ => fin, fun q => absurd (by decide) q⟩)
    refine bk_124_8 ⟨fun q => absurd rfl q, fun _ => mc_inl ?_⟩
    refine cm_outside (fun q2 => ?_) (fun _ => bk_124_17 ⟨fun q => absurd q (by decide), fun _ => fin⟩)
    rw [i3_1, i3_16] at q1
    rw [i3_0, i3_2] at q2
    exact absurd ⟨q1, q2⟩ hno
  refine bk_41_0 (a3z := 1) rfl (mc_inl ?_)
  refine bk_13_0 hr ?_
  rw [e4, c2, c3]
  refine ⟨fun q => bad1 fun z => ?_, fun q1 => ⟨fun q => bad1 fun z => ?_, fun q2 => ⟨fun q => bad1 fun z => ?_, fun q3 => ⟨fun q => bad1 fun z => ?_, fun q4 => ?_⟩⟩⟩⟩
  · have := z.1; rw [Int32.lt_iff_toInt_lt, i3_1] at q; omega
  · have := z.1; rw [Int32.lt_iff_toInt_lt, i3_16] at q; omega
  · have := z.2; rw [Int32.lt_iff_toInt_lt, i3_0] at q; omega
  · have := z.2; rw [Int32.lt_iff_toInt_lt, i3_2] at q; omega
  · rw [Int32.lt_iff_toInt_lt, i3_1] at q1
    rw [Int32.lt_iff_toInt_lt, i3_16] at q2
    rw [Int32.lt_iff_toInt_lt, i3_0] at q3
    rw [Int32.lt_iff_toInt_lt, i3_2] at q4
    obtain ⟨most, o1, o2, -, -⟩ := on_get (v := a1) (by omega)
    have hmd : a2 = 0 ∨ a2 = 1 ∨ a2 = 2 := by
      simp only [← Int32.toInt_inj, i3_0, i3_1, i3_2]
      omega
    refine ⟨fun w => mc_inl ?_, fun w => ?_⟩
    · have hf4 : f < 4 := by rw [Int32.lt_iff_toInt_lt, i3_4] at w; omega
      refine cc_add hr (by rw [e4]; omega) hK ?_
      have hfr : (I r 4).toNatClampNeg = f := by rw [e4]; exact hfn
      rw [hfr]
      have hFp := is_Ff hr hf4
      refine bk_13_60 hFp (mc_inl ?_)
      have A1 : ∀ b, ¬ b = r → ¬ (r + 4 + 4 * f ≤ b ∧ b ≤ r + 4 + 4 * f + 3) → ad_M I r 0 0 (Int32.ofNat W) (Int32.ofNat H) b = I b := fun b z1 z2 => ad_row z1 (by rw [hfr]; exact z2)
      have Af : ∀ b, ¬ b = r → ad_M I r 0 0 (Int32.ofNat W) (Int32.ofNat H) b = fb_M I (r + 4 + 4 * f) 0 0 (Int32.ofNat W) (Int32.ofNat H) b := fun b z => by
        unfold ad_M
        rw [up_ne z, hfr]
      obtain ⟨-, -, y2, y3, -⟩ := fb_v (I := I) (a := r + 4 + 4 * f) (x1 := 0) (x2 := 0) (x3 := Int32.ofNat W) (x4 := Int32.ofNat H)
      rw [o1]
      refine cc_bring (L := ry_l (I 92) W H) hFp h8 (by rw [Af _ (by omega), fb_a]; exact y2) (by rw [Af _ (by omega), fb_a]; exact y3) (by rw [A1 75 (by omega) (by omega), A1 92 (by omega) (by omega)]; exact hP) (by rw [A1 92 (by omega) (by omega)]) (ry_G hpc h8) (by omega) (by omega) (by rw [A1 4 (by omega) (by omega)]; exact hK.2.1 4 (by decide) (by decide)) (by rw [Af _ (by omega)]; exact fb_2) (fun k hk => by rw [Af _ (by omega)]; exact fb_3 hk) (fun j hj => by rw [Af _ (by omega)]; exact fb_1 hj) fun M nb sq hrun hnb hend hM => ?_
      rw [A1 92 (by omega) (by omega)] at hM
      refine bk_13_65 ?_
      refine bk_41_8 (a3z := 1) (b0z := 1) rfl rfl (by decide) ⟨by unfold vp_in; decide, ?_⟩
      have M84 : ∀ b, b < 14 ∨ 84 ≤ b → M b = I b := fun b hb' => by rw [hM.1 b (by omega) (by omega), A1 b (by omega) (by omega)]
      refine bk_42_1192 ⟨lw_i hN hx (by decide), lw_i hN hx (by decide), by show u.1 + 2 + 0 ≤ _; omega, by show u.2 + 12 + 0 ≤ _; omega, mc_inl ?_⟩
      rw [M84 1 (by decide), ha1, ha2, o1]
      refine cm_reduce (f := f) (W := W) (H := H) (L := ry_l (I 92) W H) (by rw [M84 84 (by decide)]; exact hf) hf4 h8 (by rw [M84 85 (by decide)]; exact w1) (by rw [M84 85 (by decide)]; exact k1) (by rw [M84 92 (by decide)]; exact hpc) (by rw [M84 92 (by decide)]) (ry_G hpc h8) hrun hnb (by omega) hend hmd fun F hF => ?_
      rw [M84 92 (by decide)] at hF
      have hgood := rd_good (ry_G hpc h8) hrun nb hnb.1 (Nat.le_refl _)
      have hok := rw_yok (mn := fun k => me_v (sq nb k)) (nb := nb) (mode := a2) (pc := I 92) (W := W) (H := H) (by omega) (by omega) H (Nat.le_refl _)
      exact le_1210 (hI'.reduce hf hf4 h8 (by omega) (fun k hk => me_b (hgood k hk)) hok hM hF) hF.2.1.1 (fun _ => if_pos ⟨rfl, rfl⟩) hu (by constructor <;> show _ + _ ≤ _ <;> omega) hn
    · -- no room
      have hf4 : I 84 1 = 4 := by
        rw [Int32.lt_iff_toInt_lt, i3_4] at w
        rw [← Int32.toInt_inj, i3_4]
        omega
      refine bk_42_1192 ⟨lw_i hN hx (by decide), lw_i hN hx (by decide), by show u.1 + 2 + 0 ≤ _; omega, by show u.2 + 12 + 0 ≤ _; omega, mc_inl ?_⟩
      rw [ha1, ha2]
      refine bk_124_0 (mc_inl ?_)
      refine cm_outside (fun _ => ?_) (fun q => absurd (by rw [i3_1, i3_16]; omega) q)
      refine bk_124_8 ⟨fun q => absurd rfl q, fun _ => mc_inl ?_⟩
      refine cm_outside (fun _ => ?_) (fun q => absurd (by rw [i3_0, i3_2]; omega) q)
      refine bk_124_17 ⟨fun _ => ⟨fun q => absurd hf4 q, fun _ => ?_⟩, fun q => absurd rfl q⟩
      exact le_1210 hI'.thr up_at (fun q => absurd q (by decide)) hu (by constructor <;> show _ + _ ≤ _ <;> omega) hn
end
