/-! write: a frame's bytes: the reference -/
section
variable {I M M' : rl_M} {J : Nat → Nat → Int64} {r N n f a k : Nat} {Q : mc_Q} {hs cs ps : rl_A} {c : rl_M} {cnt b clr : Int32} {L P : List Int32}
theorem on_ad {k : Nat} : Int32.ofNat a + Int32.ofNat k = Int32.ofNat (a + k) := (Int32.ofNat_add ..).symm
theorem on_a2 : Int32.ofNat a + 2 = Int32.ofNat (a + 2) := on_ad
theorem on_a3 : Int32.ofNat a + 3 = Int32.ofNat (a + 3) := on_ad
theorem on_a4 : Int32.ofNat a + 4 = Int32.ofNat (a + 4) := on_ad
theorem on_a5 : Int32.ofNat a + 5 = Int32.ofNat (a + 5) := on_ad
theorem on_a6 : Int32.ofNat a + 6 = Int32.ofNat (a + 6) := on_ad
theorem on_a7 : Int32.ofNat a + 7 = Int32.ofNat (a + 7) := on_ad
theorem on_a8 : Int32.ofNat a + 8 = Int32.ofNat (a + 8) := on_ad
theorem on_m9 : (9 : Int32) * (Int32.ofNat f + 1) = Int32.ofNat (9 * (f + 1)) := by rw [on_1, show (9 : Int32) = Int32.ofNat 9 from rfl, ← Int32.ofNat_mul]
theorem on_64 {y x : Nat} : (64 : Int32) * Int32.ofNat f + (8 : Int32) * Int32.ofNat y + Int32.ofNat x = Int32.ofNat (64 * f + (8 * y + x)) := by
  rw [show (64 : Int32) = Int32.ofNat 64 from rfl, show (8 : Int32) = Int32.ofNat 8 from rfl, ← Int32.ofNat_mul, ← Int32.ofNat_mul, on_ad, on_ad, Nat.add_assoc]
theorem cl_0 (h : -1 ≤ clr.toInt) : (0 ≤ clr) ↔ ¬ clr = -1 := by
  rw [Int32.le_iff_toInt_le, i3_0, ← Int32.toInt_inj, i3_m1]
  omega
def mf_K (M M' : rl_M) : Prop := (∀ b, ¬ b = 84 → ¬ b = 91 → (b < 95 ∨ 100 ≤ b) → M' b = M b) ∧ ∀ k, 1 ≤ k → k < 10 → M' 84 k = M 84 k
theorem mf_K.tr {M2 : rl_M} (h : mf_K M M') (h2 : mf_K M' M2) : mf_K M M2 := ⟨fun b q1 q2 q3 => (h2.1 b q1 q2 q3).trans (h.1 b q1 q2 q3), fun k q1 q => (h2.2 k q1 q).trans (h.2 k q1 q)⟩
theorem mf_om (h : om_K M M') : mf_K M M' := ⟨fun b q1 q2 _ => h.1 b q1 q2, fun k _ q => h.2 k (by omega)⟩
theorem mf_mw (h : mw_K M M') : mf_K M M' := ⟨fun b q1 q2 q3 => h.1 b q1 q2 (by omega), fun k _ q => h.2 k q⟩
theorem px_app {v : Int32} {M : rl_M} (h : px_m M P) : px_m (mc_up M 99 P.length v) (P ++ [v]) := by
  intro k a hk
  by_cases z : k < P.length
  · rw [List.getElem?_append_left z] at hk
    rw [up_nk (by omega)]
    exact h k a hk
  · have hlt := (List.getElem?_eq_some_iff.mp hk).1
    rw [List.length_append, List.length_singleton] at hlt
    have e : k = P.length := by omega
    subst e
    rw [List.getElem?_append_right (Nat.le_refl _), Nat.sub_self] at hk
    cases hk
    exact up_at
/-- the pixels in their order -/
theorem cm_order {x1 x2 x3 x4 : Int32} {W H : Nat} {v : Int32} {i : Nat} (hx1 : x1 = Int32.ofNat f) (hx2 : x2 = Int32.ofNat i) (hi : i + 8 < 45) (hf : f < 4) (hW : M 85 (i + 2) = Int32.ofNat W) (hH : M 85 (i + 3) = Int32.ofNat H) (hv : M 85 (i + 8) = v) (h9 : v = 0 ∨ v = 1) (hW8 : W ≤ 8) (hH8 : H ≤ 8)
    (hk : ∀ M' x6 x7 x8, (∀ b, ¬ b = 99 → M' b = M b) → px_m M' (fp_l W H v fun q => M 87 (64 * f + q)) → ∃ R : mc_Q, mc_WP (mc_en 60 [.ref 84, .int x1] (M', J, rf_w r, sh_w N, n)) R ∧ (∀ v' t, R (.inl v') t → mc_WP (89, 270, [.ref 84, .int x1, .int x2, .int x3, .int x4, .int (Int32.ofNat (fp_l W H v fun q => M 87 (64 * f + q)).length), .int x6, x7, x8], v'.toList ++ [], t, (0, 0)) Q) ∧ (∀ k t, R (.inr k) t → Q (.inr k) t)) :
    mc_WP (89, 157, [.ref 84, .int x1, .int x2, .int x3, .int x4, .null, .null, .null, .null], [], (M, J, rf_w r, sh_w N, n), (0, 0)) Q := by
  subst hx1 hx2
  have hlen := (rwo_ok hH8 h9).1
  have hmul : H * W ≤ 64 := Nat.le_trans (Nat.mul_le_mul hH8 hW8) (by decide)
  refine bk_89_157 ?_
  suffices main : mc_WP (89, 163, [.ref 84, .int (Int32.ofNat f), .int (Int32.ofNat i), .int x3, .int x4, .int (Int32.ofNat (0 * W)), .int (Int32.ofNat 0), .null, .null], [], (M, J, rf_w r, sh_w N, n), (0, 0)) Q by rw [Nat.zero_mul] at main; exact main
  refine lp_go (C := fun k (s : rl_M × Value × Value) => (89, 163, [.ref 84, .int (Int32.ofNat f), .int (Int32.ofNat i), .int x3, .int x4, .int (Int32.ofNat (k * W)), .int (Int32.ofNat k), s.2.1, s.2.2], [], (s.1, J, rf_w r, sh_w N, n), (0, 0))) (P := fun k s => (∀ b, ¬ b = 99 → s.1 b = M b) ∧ px_m s.1 ((pw_l W ((rw_l v H).take k)).map fun q => M 87 (64 * f + q))) H (M, .null, .null) ⟨fun _ _ => rfl, fun k a hk' => absurd hk' (by simp [pw_l])⟩ ?_ ?_
  · intro k hk' ⟨M1, z7, z8⟩ ⟨k1, p1⟩ ih
    dsimp only at k1 p1 ih ⊢
    have hy : (rw_l v H)[k]? = some (rw_l v H)[k] := List.getElem?_eq_getElem (by omega)
    have hylt := (rwo_ok hH8 h9).2 _ (List.getElem_mem (l := rw_l v H) (n := k) (by omega))
    generalize hye : (rw_l v H)[k] = y at hy hylt
    have hkw : (k + 1) * W ≤ H * W := Nat.mul_le_mul_right W hk'
    rw [Nat.succ_mul] at hkw
    have base : (pw_l W ((rw_l v H).take k)).length = k * W := by rw [pw_len, List.length_take, hlen, Nat.min_eq_left (by omega)]
    have tk : pw_l W ((rw_l v H).take (k + 1)) = pw_l W ((rw_l v H).take k) ++ pr_w W y := by
      rw [List.take_succ_eq_append_getElem (by omega), pw_app, hye]
      show _ ++ (pw_l W [y]) = _
      unfold pw_l
      rw [List.flatMap_singleton]
    have inner : mc_WP (89, 212, [.ref 84, .int (Int32.ofNat f), .int (Int32.ofNat i), .int x3, .int x4, .int (Int32.ofNat (k * W)), .int (Int32.ofNat k), .int (Int32.ofNat y), .int (Int32.ofNat 0)], [], (M1, J, rf_w r, sh_w N, n), (0, 0)) Q := by
      refine lp_go (C := fun x (s : rl_M) => (89, 212, [.ref 84, .int (Int32.ofNat f), .int (Int32.ofNat i), .int x3, .int x4, .int (Int32.ofNat (k * W + x)), .int (Int32.ofNat k), .int (Int32.ofNat y), .int (Int32.ofNat x)], [], (s, J, rf_w r, sh_w N, n), (0, 0))) (P := fun x s => (∀ b, ¬ b = 99 → s b = M b) ∧ px_m s ((pw_l W ((rw_l v H).take k) ++ pr_w x y).map fun q => M 87 (64 * f + q))) W M1 ⟨k1, by unfold pr_w; rw [List.range_zero, List.map_nil, List.append_nil]; exact p1⟩ ?_ ?_
      · intro x hx M2 ⟨k2, p2⟩ ih2
        try dsimp only at ih2 ⊢
        refine bk_89_212 ?_
        rw [k2 85 (by decide), k2 87 (by decide), on_a2, on_n (by omega), hW, on_64, on_n (by omega), on_n (by omega), on_1 (k := k * W + x), on_1 (k := x)]
        refine ⟨on_vp (by omega) (by omega), fun q => absurd ((on_le (by omega) (by omega)).mp q) (by omega), fun _ => ⟨on_vp (by omega) (by omega), on_vp (by omega) (by omega), ih2 _ ⟨fun b q => by rw [up_ne q]; exact k2 b q, ?_⟩⟩⟩
        have e : pr_w (x + 1) y = pr_w x y ++ [8 * y + x] := by unfold pr_w; rw [List.range_succ, List.map_append]; rfl
        rw [e, ← List.append_assoc, List.map_append]
        have := px_app (v := M 87 (64 * f + (8 * y + x))) p2
        rw [List.length_map, List.length_append, base, pr_len] at this
        exact this
      · intro M2 ⟨k2, p2⟩
        try dsimp only
        refine bk_89_212 ?_
        rw [k2 85 (by decide), on_a2, on_n (k := i + 2) (by omega), hW, on_1 (k := k)]
        refine ⟨on_vp (by omega) (by omega), fun _ => ?_, fun q => absurd ((on_le (by omega) (by omega)).mpr (Nat.le_refl _)) q⟩
        have := ih (M2, .int (Int32.ofNat y), .int (Int32.ofNat W)) ⟨k2, by rw [tk]; exact p2⟩
        rw [Nat.succ_mul] at this
        exact this
    refine bk_89_163 ?_
    rw [k1 85 (by decide), on_a3, on_a8, on_n (by omega), on_n (by omega), hH, hv]
    refine ⟨on_vp (by omega) (by omega), fun q => absurd ((on_le (by omega) (by omega)).mp q) (by omega), fun _ => ⟨on_vp (by omega) (by omega), on_vp (by omega) (by omega), fun q => ?_, fun q => ?_⟩⟩
    · have hv0 : v = 0 := by rcases h9 with z | z; exact z; exact absurd z q
      subst hv0
      refine bk_89_204 (mc_inl (cm_row hH8 hk' (Or.inl rfl) fun y' hy' => ?_))
      rw [hy] at hy'
      cases hy'
      exact bk_89_207 inner
    · have hv1 : v = 1 := Classical.not_not.mp q
      subst hv1
      refine bk_89_204 (mc_inl (cm_row hH8 hk' (Or.inr rfl) fun y' hy' => ?_))
      rw [hy] at hy'
      cases hy'
      exact bk_89_207 inner
  · intro ⟨M1, z7, z8⟩ ⟨k1, p1⟩
    dsimp only at k1 p1 ⊢
    rw [List.take_of_length_le (by omega)] at p1
    have e : (fp_l W H v fun q => M 87 (64 * f + q)).length = H * W := fp_len h9 hH8
    refine bk_89_163 ?_
    rw [k1 85 (by decide), on_a3, on_n (by omega), hH]
    refine ⟨on_vp (by omega) (by omega), fun _ => ?_, fun q => absurd ((on_le (by omega) (by omega)).mpr (Nat.le_refl _)) q⟩
    rw [e] at hk
    exact hk M1 _ _ _ k1 p1
theorem cm_wframe (hR : rb_R c (M 84 1) (M 85) (M 86) (M 87)) (hfi : (f : Int) < (M 84 1).toInt) (ho : om_is M L) (hl : L.length ≤ 600)
    (hk : ∀ M', mf_K M M' → om_is M' (ff_d (max 2 (eb_f (M 85) f)) (px_f (M 85) (M 87) f) (wl_h (M 85) (M 86) f L)) → Q (.inl none) (M', J, rf_w r, sh_w N, n)) :
    mc_WP (mc_en 89 [.ref 84, .int (Int32.ofNat f)] (M, J, rf_w r, sh_w N, n)) Q := by
  obtain ⟨f1, f2, f3, f4, f5, f6, f7, f8⟩ := fx_ok hR hfi
  obtain ⟨p1, p2, p3⟩ := px_ok hR hfi
  obtain ⟨g1, g2, g3, g4, g5, g6, g7, g8, g9, g10⟩ := id hR
  obtain ⟨a1, a2, a3, a4, a5, a6, a7, a8, a9, a10, a11, a12⟩ := g10 f hfi
  have h4 := cn_16 f4.2
  have hcl := cl_0 a9.1
  have hm4 : max 2 (eb_f (M 85) f) ≤ 4 := by omega
  -- the settings
  have sett : ∀ (C : Prop), (∀ M1, om_K M M1 → om_is M1 (ff_s (M 85 (9 * (f + 1) + 5)) (M 85 (9 * (f + 1) + 6)) (M 85 (9 * (f + 1) + 7)) L) → mc_WP (89, 72, [.ref 84, .int (Int32.ofNat f), .int (Int32.ofNat (9 * (f + 1))), .int (M 85 (9 * (f + 1) + 7)), .null, .null, .null, .null, .null], [], (M1, J, rf_w r, sh_w N, n), (0, 0)) Q) → mc_WP (mc_en 89 [.ref 84, .int (Int32.ofNat f)] (M, J, rf_w r, sh_w N, n)) Q := fun _ nx => by
    unfold ff_s at nx
    refine bk_89_0 ?_
    rw [on_m9, on_a7, on_n (by omega)]
    refine ⟨on_vp (by omega) (by omega), mc_inl (cm_put ho (by omega) fun M1 k1 o1 => bk_89_23 ?_)⟩
    rw [k1.1 85 (by decide) (by decide), on_a5, on_n (by omega), hcl]
    have go : ∀ s16 s0 : Int32, s16 = (if M 85 (9 * (f + 1) + 7) = -1 then 0 else 16) → s0 = (if M 85 (9 * (f + 1) + 7) = -1 then 0 else M 85 (9 * (f + 1) + 7)) → mc_WP (89, 42, [.ref 84, .int (Int32.ofNat f), .int (Int32.ofNat (9 * (f + 1))), .int (M 85 (9 * (f + 1) + 7)), .null, .null, .null, .null, .null], [.int s16, .int (M 85 (9 * (f + 1) + 5)), .ref 84], (M1, J, rf_w r, sh_w N, n), (0, 0)) Q := fun s16 s0 e16 e0 => by
      refine bk_89_42 (mc_inl (cm_put o1 (by simp; omega) fun M2 k2 o2 => bk_89_46 ?_))
      have k12 := k1.tr k2
      rw [k12.1 85 (by decide) (by decide), on_a6, on_n (by omega)]
      refine ⟨on_vp (by omega) (by omega), mc_inl (cm_put o2 (by simp; omega) fun M3 k3 o3 => bk_89_59 ?_)⟩
      have k13 := k12.tr k3
      rw [hcl]
      rw [e16] at o3
      refine ⟨fun q => bk_89_69 (mc_inl (cm_put o3 (by simp; omega) fun M4 k4 o4 => nx M4 (k13.tr k4) ?_)), fun q => bk_89_69 (mc_inl (cm_put o3 (by simp; omega) fun M4 k4 o4 => nx M4 (k13.tr k4) ?_))⟩
      · rw [if_neg q] at o4 ⊢; rw [if_neg q]; exact o4
      · rw [if_pos (Classical.not_not.mp q)] at o4 ⊢; rw [if_pos (Classical.not_not.mp q)]; exact o4
    exact ⟨on_vp (by omega) (by omega), fun q => go 16 _ (if_neg q).symm rfl, fun q => go 0 _ (if_pos (Classical.not_not.mp q)).symm rfl⟩
  refine sett True fun M1 k1 o1 => ?_
  generalize hLs : ff_s (M 85 (9 * (f + 1) + 5)) (M 85 (9 * (f + 1) + 6)) (M 85 (9 * (f + 1) + 7)) L = Ls at o1
  have hLl : Ls.length = L.length + 4 := by rw [← hLs, ffs_len]
  have hwl : wl_h (M 85) (M 86) f L = ff_h (M 85 (9 * (f + 1))) (M 85 (9 * (f + 1) + 1)) (M 85 (9 * (f + 1) + 2)) (M 85 (9 * (f + 1) + 3)) (M 85 (9 * (f + 1) + 8)) (bw_f (M 85) f) (fun j => M 86 (16 * (f + 1) + j)) Ls := by unfold wl_h; rw [hLs]
  rw [hwl] at hk
  have e85 : ∀ M2, om_K M M2 → M2 85 = M 85 := fun M2 k2 => k2.1 85 (by decide) (by decide)
  refine bk_89_72 (mc_inl (cm_put o1 (by omega) fun M2 k2 o2 => bk_89_78 ?_))
  have k12 := k1.tr k2
  refine bk_89_81 ⟨fun z => absurd z (by decide), fun _ => ?_⟩
  rw [e85 M2 k12, Int32.add_zero, on_n (by omega)]
  refine ⟨on_vp (by omega) (by omega), mc_inl (cm_put o2 (by simp; omega) fun M3 k3 o3 => bk_89_100 ?_)⟩
  have k13 := k12.tr k3
  refine bk_89_81 ⟨fun z => absurd z (by decide), fun _ => ?_⟩
  rw [e85 M3 k13, show (0 : Int32) + 1 = Int32.ofNat 1 from rfl, on_ad, on_n (by omega)]
  refine ⟨on_vp (by omega) (by omega), mc_inl (cm_put o3 (by simp; omega) fun M4 k4 o4 => bk_89_100 ?_)⟩
  have k14 := k13.tr k4
  rw [on_1]
  refine bk_89_81 ⟨fun z => absurd z (by decide), fun _ => ?_⟩
  rw [e85 M4 k14, on_ad, on_n (by omega)]
  refine ⟨on_vp (by omega) (by omega), mc_inl (cm_put o4 (by simp; omega) fun M5 k5 o5 => bk_89_100 ?_)⟩
  have k15 := k14.tr k5
  rw [on_1]
  refine bk_89_81 ⟨fun z => absurd z (by decide), fun _ => ?_⟩
  rw [e85 M5 k15, on_ad, on_n (by omega)]
  refine ⟨on_vp (by omega) (by omega), mc_inl (cm_put o5 (by simp; omega) fun M6 k6 o6 => bk_89_100 ?_)⟩
  have k16 := k15.tr k6
  rw [on_1]
  refine bk_89_81 ⟨fun _ => ?_, fun z => absurd (by decide) z⟩
  rw [e85 M6 k16, on_a4, on_a8, on_n (by omega), on_n (by omega), f4.1]
  -- behind the head
  have tail : ∀ (M7 : rl_M), mf_K M M7 → om_is M7 (ff_h (M 85 (9 * (f + 1))) (M 85 (9 * (f + 1) + 1)) (M 85 (9 * (f + 1) + 2)) (M 85 (9 * (f + 1) + 3)) (M 85 (9 * (f + 1) + 8)) (bw_f (M 85) f) (fun j => M 86 (16 * (f + 1) + j)) Ls) → mc_WP (89, 157, [.ref 84, .int (Int32.ofNat f), .int (Int32.ofNat (9 * (f + 1))), .int (M 85 (9 * (f + 1) + 7)), .int (Int32.ofNat (bw_f (M 85) f)), .null, .null, .null, .null], [], (M7, J, rf_w r, sh_w N, n), (0, 0)) Q := fun M7 k7 o7 => by
    generalize hLh : ff_h (M 85 (9 * (f + 1))) (M 85 (9 * (f + 1) + 1)) (M 85 (9 * (f + 1) + 2)) (M 85 (9 * (f + 1) + 3)) (M 85 (9 * (f + 1) + 8)) (bw_f (M 85) f) (fun j => M 86 (16 * (f + 1) + j)) Ls = Lh at *
    have hLhl : Lh.length = L.length + 4 + 6 + 3 * cn_b (bw_f (M 85) f) := by rw [← hLh, ffh_len, hLl]
    have q85 : M7 85 = M 85 := k7.1 85 (by decide) (by decide) (by decide)
    have q87 : M7 87 = M 87 := k7.1 87 (by decide) (by decide) (by decide)
    refine cm_order (W := ww_f (M 85) f) (H := hh_f (M 85) f) (v := M 85 (9 * (f + 1) + 8)) rfl rfl (by omega) f8 (by rw [q85]; exact f1.1) (by rw [q85]; exact f2.1) (by rw [q85]) f3 f1.2.2 f2.2.2 fun M8 x6 x7 x8 k8 p8 => ?_
    rw [q87] at p8 ⊢
    have k18 : mf_K M M8 := k7.tr ⟨fun b _ _ q => k8 b (by omega), fun k _ _ => by rw [k8 84 (by decide)]⟩
    have R8 : rb_R c (M8 84 1) (M8 85) (M8 86) (M8 87) := by
      rw [k18.2 1 (by decide) (by decide), k18.1 85 (by decide) (by decide) (by decide), k18.1 86 (by decide) (by decide) (by decide), k18.1 87 (by decide) (by decide) (by decide)]
      exact hR
    have o8 : om_is M8 Lh := by unfold om_is; rw [k8 84 (by decide), k8 91 (by decide)]; exact o7
    have owf : ow_in (M8 84 1) (Int32.ofNat f) := by
      right
      unfold fr_in
      rw [k18.2 1 (by decide) (by decide), on_t (by omega)]
      omega
    have owg : ow_g (Int32.ofNat f) = f + 1 := by unfold ow_g; rw [on_t (by omega)]; omega
    have ebv : M8 85 (9 * ef_g (M8 85) (ow_g (Int32.ofNat f)) + 4) = Int32.ofNat (eb_f (M 85) f) := by
      rw [k18.1 85 (by decide) (by decide) (by decide), owg]
      unfold ef_g eb_f
      have e4 := cnb a11.1
      have e0 := cnb (b := M 85 4) g9.1
      by_cases q : M 85 (9 * (f + 1) + 4) = 0
      · rw [if_pos q, if_pos (show bw_f (M 85) f = 0 from e4.2.2.2.mp q)]
        exact e0.1
      · rw [if_neg q, if_neg (show ¬ bw_f (M 85) f = 0 from fun z => q (e4.2.2.2.mpr z))]
        exact f4.1
    have fin : ∀ (x6 : Int32) (x7 x8 : Value), mc_WP (89, 283, [.ref 84, .int (Int32.ofNat f), .int (Int32.ofNat (9 * (f + 1))), .int (M 85 (9 * (f + 1) + 7)), .int (Int32.ofNat (bw_f (M 85) f)), .int (Int32.ofNat (fp_l (ww_f (M 85) f) (hh_f (M 85) f) (M 85 (9 * (f + 1) + 8)) fun q => M 87 (64 * f + q)).length), .int x6, x7, x8], [.int (Int32.ofNat (max 2 (eb_f (M 85) f)))], (M8, J, rf_w r, sh_w N, n), (0, 0)) Q := fun x6 x7 x8 => by
      refine bk_89_283 (mc_inl (cm_put o8 (by omega) fun M9 k9 o9 => bk_89_291 (mc_inl ?_)))
      refine cm_begin2 hm4 rfl fun Ma ka da => bk_89_297 (mc_inl ?_)
      have oa : om_is Ma (Lh ++ [Int32.ofNat (max 2 (eb_f (M 85) f))]) := by
        unfold om_is
        rw [ka.2 10 (by decide) (by decide) (by decide), ka.1 91 (by decide) (by decide) (by decide) (by decide) (by decide)]
        exact o9
      have pa : px_m Ma (px_f (M 85) (M 87) f) := fun k a hk' => by
        rw [ka.1 99 (by decide) (by decide) (by decide) (by decide) (by decide), k9.1 99 (by decide) (by decide)]
        exact p8 k a hk'
      refine cm_pixels (P := px_f (M 85) (M 87) f) (p2_16 hm4) da oa (by rw [List.length_append, List.length_singleton]; omega) pa p2 p1 fun Mb kb ob => ?_
      exact bk_89_303 (hk Mb (((k18.tr (mf_om k9)).tr (mf_mw (mw_me ka))).tr (mf_mw kb)) ob)
    refine mc_inl (cm_bits R8 owf ?_)
    rw [ebv]
    refine bk_89_270 ⟨fun q => mc_inl (cm_bits R8 owf ?_), fun q => ?_⟩
    · rw [ebv]
      have := (on_le (k := 2) (by omega) (by omega)).mp q
      have h2 := fin x6 x7 x8
      rw [show max 2 (eb_f (M 85) f) = eb_f (M 85) f by omega] at h2
      exact h2
    · have : ¬ 2 ≤ eb_f (M 85) f := fun z => q ((on_le (k := 2) (by omega) (by omega)).mpr z)
      have h2 := fin x6 x7 x8
      rw [show max 2 (eb_f (M 85) f) = 2 by omega] at h2
      exact h2
  unfold ff_h at tail
  have head : ∀ fl : Int32, fl = fo_b (bw_f (M 85) f) → mc_WP (89, 143, [.ref 84, .int (Int32.ofNat f), .int (Int32.ofNat (9 * (f + 1))), .int (M 85 (9 * (f + 1) + 7)), .int (Int32.ofNat (bw_f (M 85) f)), .null, .null, .null, .null], [.int fl, .int (M 85 (9 * (f + 1) + 8)), .ref 84], (M6, J, rf_w r, sh_w N, n), (0, 0)) Q := fun fl hfl => by
    rw [hfl]
    refine bk_89_143 (mc_inl (cm_put o6 (by simp; omega) fun M7 k7 o7 => bk_89_147 ⟨fun q => ?_, fun q => mc_inl ?_⟩))
    · have hb0 : bw_f (M 85) f = 0 := by
        have := (on_le (m := 0) (by omega) (by omega)).mp q
        omega
      refine tail M7 (mf_om (k16.tr k7)) ?_
      have e : pl_l (fun j => M 86 (16 * (f + 1) + j)) (cn_b (bw_f (M 85) f)) = [] := by rw [hb0]; rfl
      rw [e, List.append_nil]
      exact o7
    · have hb1 : 1 ≤ bw_f (M 85) f := by
        have : ¬ bw_f (M 85) f ≤ 0 := fun z => q ((on_le (m := 0) (by omega) (by omega)).mpr z)
        omega
      have k17 := k16.tr k7
      have owg : ow_g (Int32.ofNat f) = f + 1 := by unfold ow_g; rw [on_t (by omega)]; omega
      have e4 := cnb a11.1
      have t4 := i3_tn (M 85 (9 * (f + 1) + 4))
      refine cm_pal (x1 := Int32.ofNat f) (k := cn_b (bw_f (M 85) f)) (by rw [on_t (by omega)]; omega) o7 ?_ ?_ h4 (fun j hj => ?_) (by simp; omega) fun M8 k8 o8 => tail M8 (mf_om (k17.tr k8)) ?_
      · rw [e85 M7 k17, owg, f4.1, on_t (by omega)]; omega
      · rw [e85 M7 k17, owg]; exact e4.2.2.1
      · rw [k17.1 86 (by decide) (by decide), owg]; exact (a11.2.2 j (by omega)).2.1
      · rw [k17.1 86 (by decide) (by decide), owg] at o8; exact o8
  refine ⟨on_vp (by omega) (by omega), on_vp (by omega) (by omega), fun q => head _ ?_, fun q => head _ ?_⟩
  · have : ¬ bw_f (M 85) f = 0 := fun z => q (by rw [z]; rfl)
    unfold fo_b
    rw [if_neg this]
  · have hz := (on_eq (m := 0) (by omega) (by omega)).mp (Classical.not_not.mp q)
    rw [hz]; rfl
/-- the reference's reel -/
theorem cm_reel (hR : rb_R c (M 84 1) (M 85) (M 86) (M 87))
    (hk : ∀ M', mf_K M M' → om_is M' (wl_f (M 85) (M 86) (M 87) (M 84 1).toNatClampNeg ++ [59]) → Q (.inl (some (.int (M' 84 10)))) (M', J, rf_w r, sh_w N, n)) :
    mc_WP (mc_en 90 [.ref 84] (M, J, rf_w r, sh_w N, n)) Q := by
  obtain ⟨g1, g2, g3, g4, g5, g6, g7, g8, g9, g10⟩ := id hR
  have hcn := i3_tn (M 84 1)
  have hc4 : M 84 1 = Int32.ofNat (M 84 1).toNatClampNeg := on_of (by omega)
  have e0 := cnb (b := M 85 4) g9.1
  have h16 := cn_16 e0.2.1
  refine bk_90_0 (mc_inl ?_)
  generalize hM0 : mc_up (mc_up M 84 0 0) 84 10 0 = M0
  have k0 : mf_K M M0 := ⟨fun b q _ _ => by rw [← hM0, up_ne q, up_ne q], fun k q1 q2 => by rw [← hM0, up_nk (by omega), up_nk (by omega)]⟩
  have o0 : om_is M0 [] := ⟨by rw [← hM0, up_at]; rfl, fun k a q => absurd q (by simp)⟩
  have e85 : ∀ M2, mf_K M M2 → M2 85 = M 85 := fun M2 k2 => k2.1 85 (by decide) (by decide) (by decide)
  refine cm_put o0 (by decide) fun M1 k1 o1 => bk_90_16 (mc_inl (cm_put o1 (by simp) fun M2 k2 o2 => bk_90_22 (mc_inl ?_)))
  have k12 := (k0.tr (mf_om k1)).tr (mf_om k2)
  rw [e85 M2 k12]
  refine cm_put o2 (by simp) fun M3 k3 o3 => bk_90_32 (mc_inl ?_)
  have k13 := k12.tr (mf_om k3)
  rw [e85 M3 k13]
  refine cm_put o3 (by simp) fun M4 k4 o4 => bk_90_42 (mc_inl ?_)
  have k14 := k13.tr (mf_om k4)
  rw [e85 M4 k14]
  refine cm_put o4 (by simp) fun M5 k5 o5 => bk_90_54 (mc_inl ?_)
  have k15 := k14.tr (mf_om k5)
  have owg : ow_g (-1 : Int32) = 0 := rfl
  refine cm_pal (x1 := -1) (k := cn_b (M 85 4).toNatClampNeg) (by decide) o5 ?_ ?_ h16 (fun j hj => ?_) (by simp; omega) fun M6 k6 o6 => bk_90_59 ?_
  · rw [e85 M5 k15, owg]; exact ⟨g8, g9.1.2⟩
  · rw [e85 M5 k15, owg]; exact e0.2.2.1
  · rw [k15.1 86 (by decide) (by decide) (by decide), owg]; exact (g9.2.2 j (by omega)).2.1
  have k16 := k15.tr (mf_om k6)
  rw [k15.1 86 (by decide) (by decide) (by decide), owg, pl_eq (c2 := M 86) (cn_b (M 85 4).toNatClampNeg) (fun j hj => by rw [Nat.mul_zero, Nat.zero_add])] at o6
  refine lp_go (C := fun f (i : rl_M) => (90, 61, [.ref 84, .int (Int32.ofNat f)], [], (i, J, rf_w r, sh_w N, n), (0, 0))) (P := fun f i => mf_K M i ∧ om_is i (wl_f (M 85) (M 86) (M 87) f)) (M 84 1).toNatClampNeg M6 ⟨k16, o6⟩ ?_ ?_
  · intro f hf Mf ⟨wf, of⟩ ih
    try dsimp only at wf of ih ⊢
    have q1 := wf.2 1 (by decide) (by decide)
    have q5 := wf.1 85 (by decide) (by decide) (by decide)
    have q6 := wf.1 86 (by decide) (by decide) (by decide)
    have q7 := wf.1 87 (by decide) (by decide) (by decide)
    have hl := wlf_len hR f (by omega)
    refine bk_90_61 ?_
    rw [q1, hc4]
    refine ⟨fun q => absurd ((on_le (by omega) (by omega)).mp q) (by omega), fun _ => mc_inl ?_⟩
    refine cm_wframe (c := c) (by rw [q1, q5, q6, q7]; exact hR) (by rw [q1]; omega) of (by omega) fun M7 k7 o7 => bk_90_74 ?_
    rw [on_1]
    rw [q5, q6, q7] at o7
    exact ih M7 ⟨wf.tr k7, o7⟩
  · intro Mf ⟨wf, of⟩
    try dsimp only at wf of ⊢
    have hl := wlf_len hR (M 84 1).toNatClampNeg (by omega)
    refine bk_90_61 ?_
    rw [wf.2 1 (by decide) (by decide)]
    refine ⟨fun _ => mc_inl (cm_put of (by omega) fun M7 k7 o7 => bk_90_86 (hk M7 (wf.tr (mf_om k7)) o7)), fun q => absurd ?_ q⟩
    rw [← hc4]
    exact Int32.le_refl _
end
