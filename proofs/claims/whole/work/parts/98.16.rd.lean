/-! read: a frame: the reference -/
section
variable {I M M' : rl_M} {J : Nat → Nat → Int64} {r N n : Nat} {Q : mc_Q} {B : rd_B} {S : Option Nat} {a k m b c v w t fr tot pl e cnt sb z f : Nat} {P : List Int32} {s : Nat × Nat × Int32} {R : fr_T}
theorem pw_get (hw : 1 ≤ w) : ∀ (ys : List Nat) (k y : Nat), ys[k / w]? = some y → (pw_l w ys)[k]? = some (8 * y + k % w)
  | [], k, y, h => by simp at h
  | y0 :: ys, k, y, h => by
    have e : pw_l w (y0 :: ys) = pr_w w y0 ++ pw_l w ys := by unfold pw_l; rw [List.flatMap_cons]
    rw [e]
    by_cases q : k < w
    · rw [Nat.div_eq_of_lt q] at h
      have hy : y0 = y := Option.some.inj h
      rw [List.getElem?_append_left (by rw [pr_len]; exact q), Nat.mod_eq_of_lt q]
      unfold pr_w
      rw [List.getElem?_map, List.getElem?_range q, hy]
      rfl
    · have h1 : k / w = (k - w) / w + 1 := by
        have := Nat.div_eq_sub_div (a := k) (b := w) (by omega) (by omega)
        exact this
      rw [h1] at h
      have ih := pw_get hw ys (k - w) y h
      rw [List.getElem?_append_right (by rw [pr_len]; omega), pr_len, ih, ← Nat.mod_eq_sub_mod (by omega)]
def rf_is (M : rl_M) (f : Nat) (R : fr_T) : Prop := (M 88 (9 * (f + 1)) = Int32.ofNat R.1.1 ∧ M 88 (9 * (f + 1) + 1) = Int32.ofNat R.1.2.1 ∧ M 88 (9 * (f + 1) + 2) = Int32.ofNat R.1.2.2.1 ∧ M 88 (9 * (f + 1) + 3) = Int32.ofNat R.1.2.2.2) ∧ (M 88 (9 * (f + 1) + 4) = Int32.ofNat R.2.1.2 ∧ M 88 (9 * (f + 1) + 5) = Int32.ofNat R.2.2.1.1 ∧ M 88 (9 * (f + 1) + 6) = Int32.ofNat R.2.2.1.2.1 ∧ M 88 (9 * (f + 1) + 7) = R.2.2.1.2.2 ∧ M 88 (9 * (f + 1) + 8) = Int32.ofNat R.2.1.1) ∧ (∀ k, k < 16 → M 89 (16 * (f + 1) + k) = R.2.2.2.1 k) ∧ ∀ (k : Nat) (p : Int32), R.2.2.2.2[k]? = some p → ∃ q, (cf_A R)[k]? = some q ∧ M 90 (64 * f + q) = p
def mg_K (f : Nat) (M M' : rl_M) : Prop := (∀ b, ¬ b = 84 → ¬ b = 88 → ¬ b = 89 → ¬ b = 90 → (b < 95 ∨ 100 ≤ b) → M' b = M b) ∧ (∀ k, k < 18 → ¬ k = 5 → M' 84 k = M 84 k) ∧ (∀ k, (k < 9 * (f + 1) ∨ 9 * (f + 1) + 9 ≤ k) → M' 88 k = M 88 k) ∧ (∀ k, (k < 16 * (f + 1) ∨ 16 * (f + 1) + 16 ≤ k) → M' 89 k = M 89 k) ∧ ∀ k, (k < 64 * f ∨ 64 * f + 64 ≤ k) → M' 90 k = M 90 k
theorem mg_K.tr {M2 : rl_M} (h : mg_K f M M') (h2 : mg_K f M' M2) : mg_K f M M2 := ⟨fun b q1 q2 q3 q4 q5 => (h2.1 b q1 q2 q3 q4 q5).trans (h.1 b q1 q2 q3 q4 q5), fun k q1 q2 => (h2.2.1 k q1 q2).trans (h.2.1 k q1 q2), fun k q => (h2.2.2.1 k q).trans (h.2.2.1 k q), fun k q => (h2.2.2.2.1 k q).trans (h.2.2.2.1 k q), fun k q => (h2.2.2.2.2 k q).trans (h.2.2.2.2 k q)⟩
theorem mg_gt (h : gt_K M M') : mg_K f M M' := ⟨fun b q _ _ _ _ => h.1 b q, fun k q _ => h.2 k (by omega) (by omega), fun k _ => by rw [h.1 88 (by decide)], fun k _ => by rw [h.1 89 (by decide)], fun k _ => by rw [h.1 90 (by decide)]⟩
theorem mg_88 {v : Int32} (hk : 9 * (f + 1) ≤ k ∧ k < 9 * (f + 1) + 9) : mg_K f M (mc_up M 88 k v) := ⟨fun b _ q _ _ _ => up_ne q, fun j _ _ => by rw [up_ne (by decide)], fun j q => up_nk (by omega), fun j _ => by rw [up_ne (by decide)], fun j _ => by rw [up_ne (by decide)]⟩
theorem mg_22 {v : Int32} : mg_K f M (mc_up M 84 22 v) := ⟨fun b q _ _ _ _ => up_ne q, fun j q _ => up_nk (by omega), fun j _ => by rw [up_ne (by decide)], fun j _ => by rw [up_ne (by decide)], fun j _ => by rw [up_ne (by decide)]⟩
theorem mg_gc (h : gc_K (f + 1) M M') : mg_K f M M' := ⟨fun b q1 _ q2 _ _ => h.1 b q1 q2, fun j q _ => h.2.1 j (by omega) (by omega), fun j _ => by rw [h.1 88 (by decide) (by decide)], fun j q => h.2.2 j q, fun j _ => by rw [h.1 90 (by decide) (by decide)]⟩
theorem mg_dq (h : dq_K M M') : mg_K f M M' := ⟨fun b q1 _ _ _ q2 => h.1 b q1 q2, fun j q _ => h.2 j q, fun j _ => by rw [h.1 88 (by decide) (by decide)], fun j _ => by rw [h.1 89 (by decide) (by decide)], fun j _ => by rw [h.1 90 (by decide) (by decide)]⟩
theorem mg_by (h : mg_K f M M') (hb : by_m M B) : by_m M' B := by_mg hb (h.2.1 10 (by decide) (by decide)) (h.1 91 (by decide) (by decide) (by decide) (by decide) (by decide))
def ob_v (v : Nat) : Nat := if v < 2 then 0 else 1 + v / 4
theorem ob_fl (h : fl_o v) : ob_v v = fl_b v := by
  unfold ob_v fl_b
  rcases h with h | h
  · rw [if_pos h, if_neg (by omega)]
  · rw [if_neg (by omega), if_pos h, Nat.add_comm]
theorem ob_fin : ∀ v : Fin 16, ((Int32.ofNat v.1 &&& (1 : Int32)) = Int32.ofNat (v.1 % 2)) ∧ (((Int32.ofNat v.1 &&& (2 : Int32)) = 2) ↔ v.1 / 2 % 2 = 1) ∧ (Int32.ofNat v.1 < 2 ↔ v.1 < 2) ∧ ((2 : Int32) ≤ Int32.ofNat v.1 ↔ ¬ v.1 < 2) ∧ (1 : Int32) + (Int32.ofNat v.1 >>> ((2 : Int32) &&& 31)) = Int32.ofNat (1 + v.1 / 4) := by decide +kernel
theorem ob_4 (h : v < 16) : ob_v v ≤ 4 := by unfold ob_v; split <;> omega
/-- behind the bytes: the pixels are laid out -/
theorem cm_lay {x1 x2 x3 x4 x5 x6 x7 : Int32} {W H : Nat} {i : Nat} {vv : Int32} (hx4 : x4 = Int32.ofNat i) (hi : i + 8 < 45) (hcnt : M 84 5 = Int32.ofNat cnt) (hc4 : cnt < 4) (hW : 1 ≤ W ∧ W ≤ 8) (hH : 1 ≤ H ∧ H ≤ 8) (hv : M 88 (i + 8) = vv) (h9 : vv = 0 ∨ vv = 1) (hg : M 84 22 = 1) (hP : px_m M P) (hPl : P.length = W * H)
    (hk : ∀ M', (∀ b, ¬ b = 84 → ¬ b = 90 → M' b = M b) → (∀ k, ¬ k = 5 → M' 84 k = M 84 k) → M' 84 5 = Int32.ofNat (cnt + 1) → (∀ k, (k < 64 * cnt ∨ 64 * cnt + 64 ≤ k) → M' 90 k = M 90 k) → (∀ (k : Nat) (p : Int32), P[k]? = some p → ∃ q, (pw_l W (rw_l vv H))[k]? = some q ∧ M' 90 (64 * cnt + q) = p) → Q (.inl none) (M', J, rf_w r, sh_w N, n)) :
    mc_WP (101, 301, [.ref 84, .int x1, .int x2, .int x3, .int x4, .int x5, .int x6, .int x7, .int (Int32.ofNat W), .int (Int32.ofNat H), .null, .null], [], (M, J, rf_w r, sh_w N, n), (0, 0)) Q := by
  subst hx4
  have hmul : W * H ≤ 64 := Nat.le_trans (Nat.mul_le_mul hW.2 hH.2) (by decide)
  have hrl := (rwo_ok hH.2 h9).1
  have hnd := pw_nod (w := W) (v := vv) hH.2 hW.2 h9
  refine bk_101_301 ?_
  refine lp_go (C := fun k (s : rl_M × Value) => (101, 304, [.ref 84, .int x1, .int x2, .int x3, .int (Int32.ofNat i), .int x5, .int x6, .int x7, .int (Int32.ofNat W), .int (Int32.ofNat H), .int (Int32.ofNat k), s.2], [], (s.1, J, rf_w r, sh_w N, n), (0, 0))) (P := fun k s => (∀ b, ¬ b = 90 → s.1 b = M b) ∧ (∀ k, (k < 64 * cnt ∨ 64 * cnt + 64 ≤ k) → s.1 90 k = M 90 k) ∧ (∀ (j : Nat) (p : Int32), j < k → P[j]? = some p → ∃ q, (pw_l W (rw_l vv H))[j]? = some q ∧ s.1 90 (64 * cnt + q) = p)) (W * H) (M, .null) ⟨fun _ _ => rfl, fun _ _ => rfl, fun j p hj => absurd hj (by omega)⟩ ?_ ?_
  · intro k hk' ⟨M1, z⟩ ⟨i1, i2, i3⟩ ih
    dsimp only at i1 i2 i3 ih ⊢
    have hkw : k / W < H := (Nat.div_lt_iff_lt_mul (by omega)).mpr (by rw [Nat.mul_comm]; exact hk')
    have hkm : k % W < W := Nat.mod_lt _ (by omega)
    have hy := List.getElem?_eq_getElem (l := rw_l vv H) (i := k / W) (by omega)
    have hylt := (rwo_ok hH.2 h9).2 _ (List.getElem_mem (l := rw_l vv H) (n := k / W) (by omega))
    generalize (rw_l vv H)[k / W] = y at hy hylt
    have hAk := pw_get (w := W) hW.1 _ _ _ hy
    have kw : k / W ≤ 64 := by omega
    have dv : Int32.ofNat k / Int32.ofNat W = Int32.ofNat (k / W) := on_dv (by omega) (by omega)
    have md : Int32.ofNat k - Int32.ofNat (k / W) * Int32.ofNat W = Int32.ofNat (k % W) := by
      rw [← Int32.ofNat_mul, on_sub (Nat.div_mul_le_self k W)]
      congr 1
      have := Nat.div_add_mod k W
      rw [Nat.mul_comm] at this
      omega
    have hW0 : ¬ Int32.ofNat W = 0 := fun q => by
      have := (on_eq (m := 0) (by omega) (by omega)).mp q
      omega
    refine bk_101_304 ?_
    rw [← Int32.ofNat_mul, i1 84 (by decide), i1 88 (by decide), on_a8, on_n (k := i + 8) (by omega), hv, dv]
    have lay : mc_WP (101, 350, [.ref 84, .int x1, .int x2, .int x3, .int (Int32.ofNat i), .int x5, .int x6, .int x7, .int (Int32.ofNat W), .int (Int32.ofNat H), .int (Int32.ofNat k), z], [.int (Int32.ofNat y)], (M1, J, rf_w r, sh_w N, n), (0, 0)) Q := by
      refine bk_101_350 ?_
      rw [i1 84 (by decide), i1 99 (by decide), hcnt, dv, md, on_64, on_n (k := k) (by omega), on_n (k := 64 * cnt + (8 * y + k % W)) (by omega), on_1]
      refine ⟨hW0, on_vp (by omega) (by omega), on_vp (by omega) (by omega), ?_⟩
      have hkP : k < P.length := by omega
      have e99 : M 99 k = P[k] := hP k _ (List.getElem?_eq_getElem hkP)
      rw [e99]
      generalize hM2 : mc_up M1 90 (64 * cnt + (8 * y + k % W)) P[k] = M2
      refine ih (M2, _) ⟨fun b q => by show M2 b = M b; rw [← hM2, up_ne q]; exact i1 b q, fun j q => by show M2 90 j = M 90 j; rw [← hM2, up_nk (by omega)]; exact i2 j q, fun j p hj hp => ?_⟩
      by_cases zz : j = k
      · subst zz
        rw [List.getElem?_eq_getElem hkP] at hp
        cases hp
        exact ⟨_, hAk, by show M2 90 _ = _; rw [← hM2, up_at]⟩
      · obtain ⟨q, g1, g2⟩ := i3 j p (by omega) hp
        refine ⟨q, g1, ?_⟩
        show M2 90 _ = _
        have hne : ¬ q = 8 * y + k % W := fun heq => by
          rw [← heq] at hAk
          obtain ⟨u1, u2⟩ := List.getElem?_eq_some_iff.mp g1
          obtain ⟨u3, u4⟩ := List.getElem?_eq_some_iff.mp hAk
          exact zz ((List.getElem_inj hnd).mp (u2.trans u4.symm))
        rw [← hM2, up_nk (by omega)]
        exact g2
    refine ⟨fun q => absurd ((on_le (by omega) (by omega)).mp q) (by omega), fun _ => ⟨fun q => absurd (hg.symm.trans q) (by decide), fun _ => ⟨hW0, on_vp (by omega) (by omega), fun q => ?_, fun q => ?_⟩⟩⟩
    · have hv0 : vv = 0 := by rcases h9 with u | u; exact u; exact absurd u q
      subst hv0
      refine bk_101_347 (mc_inl (cm_row hH.2 hkw (Or.inl rfl) fun y' hy' => ?_))
      rw [hy] at hy'
      cases hy'
      exact lay
    · have hv1 : vv = 1 := Classical.not_not.mp q
      subst hv1
      refine bk_101_347 (mc_inl (cm_row hH.2 hkw (Or.inr rfl) fun y' hy' => ?_))
      rw [hy] at hy'
      cases hy'
      exact lay
  · intro ⟨M1, z⟩ ⟨i1, i2, i3⟩
    dsimp only at i1 i2 i3 ⊢
    refine bk_101_304 ?_
    rw [← Int32.ofNat_mul]
    refine ⟨fun _ => bk_101_389 ?_, fun q => absurd ((on_le (by omega) (by omega)).mpr (Nat.le_refl _)) q⟩
    rw [i1 84 (by decide), hcnt, on_1]
    refine hk _ (fun b q1 q2 => by rw [up_ne q1]; exact i1 b q2) (fun j q => by rw [up_nk q, i1 84 (by decide)]) up_at (fun j q => by rw [up_ne (by decide)]; exact i2 j q) (fun j p hp => ?_)
    have := (List.getElem?_eq_some_iff.mp hp).1
    obtain ⟨q, g1, g2⟩ := i3 j p (by omega) hp
    exact ⟨q, g1, by rw [up_ne (by decide)]; exact g2⟩
theorem cm_tframe (hB : rd_ok B) (hb : by_m M B) (hg : gd_is M (some a)) (ha : a ≤ B.1) (hcnt : M 84 5 = Int32.ofNat cnt) (hc4 : cnt < 4) (hsb : 1 ≤ sb ∧ sb ≤ 4) (hs4 : M 88 4 = Int32.ofNat sb) (hs1 : s.1 ≤ 3 ∧ s.2.1 ≤ 255 ∧ -1 ≤ s.2.2.toInt)
    (hn : ∀ M', mg_K cnt M M' → M' 84 5 = Int32.ofNat (cnt + 1) → pf_f B a sb s = none → M' 84 22 = 0 → Q (.inl none) (M', J, rf_w r, sh_w N, n))
    (hk : ∀ M' R z, mg_K cnt M M' → M' 84 5 = Int32.ofNat (cnt + 1) → pf_f B a sb s = some (R, z) → gd_is M' (some z) → rf_is M' cnt R → Q (.inl none) (M', J, rf_w r, sh_w N, n)) :
    mc_WP (mc_en 101 [.ref 84, .int (Int32.ofNat s.1), .int (Int32.ofNat s.2.1), .int s.2.2] (M, J, rf_w r, sh_w N, n)) Q := by
  have h8 := hB.1
  have sh88 : sh_w N 88 = (2, 45) := rfl
  have owg : ow_g (Int32.ofNat cnt) = cnt + 1 := by unfold ow_g; rw [on_t (by omega)]; omega
  have hxc : -1 ≤ (Int32.ofNat cnt).toInt ∧ (Int32.ofNat cnt).toInt < 4 := by rw [on_t (by omega)]; omega
  refine bk_101_0 ?_
  rw [hcnt, on_m9, Int32.add_zero]
  refine mc_inl (cm_take (lo := 0) (hi := 7) hB hb hg (fun b h => by cases h; omega) (by decide) (by decide) fun M1 v1 k1 g1 _ w1 e1 _ => bk_101_26 sh88 (by decide) ⟨on_vp (by omega) (by omega), mc_inl ?_⟩)
  rw [on_n (by omega)]
  have K1 : mg_K cnt M (mc_up M1 88 (9 * (cnt + 1)) (Int32.ofNat v1)) := (mg_gt k1).tr (mg_88 (by omega))
  refine cm_take (lo := 0) (hi := 7) hB (mg_by K1 hb) (gd_cg g1 (by rw [up_ne (by decide)]) (by rw [up_ne (by decide)])) (sm_tk hB) (by decide) (by decide) fun M2 v2 k2 g2 _ w2 e2 _ => bk_101_42 sh88 (by decide) ?_
  rw [on_1, on_n (by omega)]
  refine ⟨on_vp (by omega) (by omega), mc_inl ?_⟩
  have K2 : mg_K cnt M (mc_up M2 88 (9 * (cnt + 1) + 1) (Int32.ofNat v2)) := (K1.tr (mg_gt k2)).tr (mg_88 (by omega))
  refine cm_take (lo := 1) (hi := 8) hB (mg_by K2 hb) (gd_cg g2 (by rw [up_ne (by decide)]) (by rw [up_ne (by decide)])) (sm_tk hB) (by decide) (by decide) fun M3 v3 k3 g3 u3 w3 e3 _ => bk_101_58 sh88 (by decide) ?_
  rw [on_a2, on_n (by omega)]
  refine ⟨on_vp (by omega) (by omega), mc_inl ?_⟩
  have K3 : mg_K cnt M (mc_up M3 88 (9 * (cnt + 1) + 2) (Int32.ofNat v3)) := (K2.tr (mg_gt k3)).tr (mg_88 (by omega))
  refine cm_take (lo := 1) (hi := 8) hB (mg_by K3 hb) (gd_cg g3 (by rw [up_ne (by decide)]) (by rw [up_ne (by decide)])) (sm_tk hB) (by decide) (by decide) fun M4 v4 k4 g4 u4 w4 e4 _ => bk_101_74 sh88 (by decide) ?_
  rw [on_a3, on_n (by omega)]
  refine ⟨on_vp (by omega) (by omega), mc_inl ?_⟩
  have K4 : mg_K cnt M (mc_up M4 88 (9 * (cnt + 1) + 3) (Int32.ofNat v4)) := (K3.tr (mg_gt k4)).tr (mg_88 (by omega))
  refine cm_take (lo := 0) (hi := 15) hB (mg_by K4 hb) (gd_cg g4 (by rw [up_ne (by decide)]) (by rw [up_ne (by decide)])) (sm_tk hB) (by decide) (by decide) fun M5 v5 k5 g5 _ w5 e5 _ => ?_
  have K5 : mg_K cnt M M5 := K4.tr (mg_gt k5)
  -- what the row holds by now
  have r5 : M5 88 (9 * (cnt + 1)) = Int32.ofNat v1 ∧ M5 88 (9 * (cnt + 1) + 1) = Int32.ofNat v2 ∧ M5 88 (9 * (cnt + 1) + 2) = Int32.ofNat v3 ∧ M5 88 (9 * (cnt + 1) + 3) = Int32.ofNat v4 := by
    rw [k5.1 88 (by decide)]
    refine ⟨?_, ?_, ?_, up_at⟩
    · rw [up_nk (by omega), k4.1 88 (by decide), up_nk (by omega), k3.1 88 (by decide), up_nk (by omega), k2.1 88 (by decide), up_at]
    · rw [up_nk (by omega), k4.1 88 (by decide), up_nk (by omega), k3.1 88 (by decide), up_at]
    · rw [up_nk (by omega), k4.1 88 (by decide), up_at]
  obtain ⟨o1, o2, o3, o4, o5⟩ := ob_fin ⟨v5, by omega⟩
  dsimp only at o1 o2 o3 o4 o5
  have ob4 := ob_4 (v := v5) (by omega)
  -- behind the flags
  have rest : ∀ (gd : Int32), (gd = 0 ∨ gd = 1) → gd_is (mc_up M5 84 22 gd) (if fl_o v5 then tk_S B 0 15 (tk_S B 1 8 (tk_S B 1 8 (tk_S B 0 7 (tk_S B 0 7 (some a))))) else none) → mc_WP (101, 111, [.ref 84, .int (Int32.ofNat s.1), .int (Int32.ofNat s.2.1), .int s.2.2, .int (Int32.ofNat (9 * (cnt + 1))), .int (Int32.ofNat v5), .null, .null, .null, .null, .null, .null], [.int gd, .ref 84], (M5, J, rf_w r, sh_w N, n), (0, 0)) Q := fun gd hgd g6 => by
    have own : ∀ ow : Int32, ow = Int32.ofNat (ob_v v5) → mc_WP (101, 152, [.ref 84, .int (Int32.ofNat s.1), .int (Int32.ofNat s.2.1), .int s.2.2, .int (Int32.ofNat (9 * (cnt + 1))), .int (Int32.ofNat v5), .null, .null, .null, .null, .null, .null], [.int ow, .int (Int32.ofNat (9 * (cnt + 1) + 4)), .ref 88], (mc_up (mc_up M5 84 22 gd) 88 (9 * (cnt + 1) + 8) (Int32.ofNat (v5 % 2)), J, rf_w r, sh_w N, n), (0, 0)) Q := fun ow how => by
      refine bk_101_152 sh88 (by decide) ?_
      rw [how, on_n (by omega)]
      refine ⟨on_vp (by omega) (by omega), mc_inl ?_⟩
      generalize hM6 : mc_up (mc_up (mc_up M5 84 22 gd) 88 (9 * (cnt + 1) + 8) (Int32.ofNat (v5 % 2))) 88 (9 * (cnt + 1) + 4) (Int32.ofNat (ob_v v5)) = M6
      have K6 : mg_K cnt M M6 := by rw [← hM6]; exact ((K5.tr mg_22).tr (mg_88 (by omega))).tr (mg_88 (by omega))
      have e65 : M6 84 5 = Int32.ofNat cnt := by
        rw [← hM6, up_ne (by decide), up_ne (by decide), up_nk (by decide), k5.2 5 (by decide) (by decide), up_ne (by decide), k4.2 5 (by decide) (by decide), up_ne (by decide), k3.2 5 (by decide) (by decide), up_ne (by decide), k2.2 5 (by decide) (by decide), up_ne (by decide), k1.2 5 (by decide) (by decide)]
        exact hcnt
      have g6' : gd_is M6 (if fl_o v5 then tk_S B 0 15 (tk_S B 1 8 (tk_S B 1 8 (tk_S B 0 7 (tk_S B 0 7 (some a))))) else none) := gd_cg g6 (by rw [← hM6, up_ne (by decide), up_ne (by decide)]) (by rw [← hM6, up_ne (by decide), up_ne (by decide)])
      have r6 : M6 88 (9 * (cnt + 1)) = Int32.ofNat v1 ∧ M6 88 (9 * (cnt + 1) + 1) = Int32.ofNat v2 ∧ M6 88 (9 * (cnt + 1) + 2) = Int32.ofNat v3 ∧ M6 88 (9 * (cnt + 1) + 3) = Int32.ofNat v4 ∧ M6 88 (9 * (cnt + 1) + 4) = Int32.ofNat (ob_v v5) ∧ M6 88 (9 * (cnt + 1) + 8) = Int32.ofNat (v5 % 2) := by
        rw [← hM6]
        refine ⟨?_, ?_, ?_, ?_, up_at, ?_⟩
        · rw [up_nk (by omega), up_nk (by omega), up_ne (by decide)]; exact r5.1
        · rw [up_nk (by omega), up_nk (by omega), up_ne (by decide)]; exact r5.2.1
        · rw [up_nk (by omega), up_nk (by omega), up_ne (by decide)]; exact r5.2.2.1
        · rw [up_nk (by omega), up_nk (by omega), up_ne (by decide)]; exact r5.2.2.2
        · rw [up_nk (by omega), up_at]
      have smS : sm_S (if fl_o v5 then tk_S B 0 15 (tk_S B 1 8 (tk_S B 1 8 (tk_S B 0 7 (tk_S B 0 7 (some a))))) else none) := by
        split
        · exact sm_tk hB
        · exact fun b h => nomatch h
      have leS : ∀ b, (if fl_o v5 then tk_S B 0 15 (tk_S B 1 8 (tk_S B 1 8 (tk_S B 0 7 (tk_S B 0 7 (some a))))) else none) = some b → b ≤ B.1 := fun b h => by
        split at h
        · obtain ⟨c, _, h2, h3⟩ := tkS_inv h
          have := h2.1
          omega
        · cases h
      rw [e65]
      refine cm_coloursOf (x1 := Int32.ofNat cnt) hxc (by rw [owg]; exact r6.2.2.2.2.1) ob4 hB (mg_by K6 hb) g6' smS leS fun M7 k7 g7 x7 => bk_101_161 ?_
      rw [owg] at k7 x7
      have K7 : mg_K cnt M M7 := K6.tr (mg_gc k7)
      have r7 : ∀ k, M7 88 k = M6 88 k := fun k => by rw [k7.1 88 (by decide) (by decide)]
      have h16 := cn_16 ob4
      -- how many bits a pixel has
      have ebn : ∃ eb, eb = (if ob_v v5 = 0 then sb else ob_v v5) ∧ 1 ≤ eb ∧ eb ≤ 4 := ⟨_, rfl, by split <;> omega, by split <;> omega⟩
      obtain ⟨eb, heb, eb1, eb4⟩ := ebn
      have p16 := p2_16 eb4
      have sh2 := (sh_2 (i := eb) (by omega)).1
      have bits : mc_WP (101, 191, [.ref 84, .int (Int32.ofNat s.1), .int (Int32.ofNat s.2.1), .int s.2.2, .int (Int32.ofNat (9 * (cnt + 1))), .int (Int32.ofNat v5), .null, .null, .null, .null, .null, .null], [.int (Int32.ofNat eb)], (M7, J, rf_w r, sh_w N, n), (0, 0)) Q := by
        refine bk_101_191 ?_
        rw [on_a5, on_a6, on_a7, on_n (by omega), on_n (by omega), on_n (by omega), sh2]
        generalize hM8 : mc_up (mc_up (mc_up M7 88 (9 * (cnt + 1) + 5) (Int32.ofNat s.1)) 88 (9 * (cnt + 1) + 6) (Int32.ofNat s.2.1)) 88 (9 * (cnt + 1) + 7) s.2.2 = M8
        have K8 : mg_K cnt M M8 := by rw [← hM8]; exact ((K7.tr (mg_88 (by omega))).tr (mg_88 (by omega))).tr (mg_88 (by omega))
        have n8 : ∀ b, ¬ b = 88 → M8 b = M7 b := fun b q => by rw [← hM8, up_ne q, up_ne q, up_ne q]
        have r8 : ∀ k, ¬ k = 9 * (cnt + 1) + 5 → ¬ k = 9 * (cnt + 1) + 6 → ¬ k = 9 * (cnt + 1) + 7 → M8 88 k = M6 88 k := fun k q1 q2 q3 => by rw [← hM8, up_nk q3, up_nk q2, up_nk q1, r7]
        have q8 : M8 88 (9 * (cnt + 1) + 5) = Int32.ofNat s.1 ∧ M8 88 (9 * (cnt + 1) + 6) = Int32.ofNat s.2.1 ∧ M8 88 (9 * (cnt + 1) + 7) = s.2.2 := by
          rw [← hM8]
          exact ⟨by rw [up_nk (by omega), up_nk (by omega), up_at], by rw [up_nk (by omega), up_at], up_at⟩
        have cle : (Int32.ofNat (2 ^ eb) ≤ s.2.2) ↔ ¬ s.2.2.toInt < ((2 ^ eb : Nat) : Int) := by
          rw [Int32.le_iff_toInt_le, on_t (by omega)]
          omega
        rw [cle]
        -- the clear number fits or not
        have tail : ∀ (cg : Int32) (S8 : Option Nat), (cg = 0 ∨ cg = 1) → gd_is (mc_up M8 84 22 cg) S8 → S8 = (if s.2.2.toInt < ((2 ^ eb : Nat) : Int) then co_S B (cn_b (ob_v v5)) (if fl_o v5 then tk_S B 0 15 (tk_S B 1 8 (tk_S B 1 8 (tk_S B 0 7 (tk_S B 0 7 (some a))))) else none) else none) → mc_WP (101, 246, [.ref 84, .int (Int32.ofNat s.1), .int (Int32.ofNat s.2.1), .int s.2.2, .int (Int32.ofNat (9 * (cnt + 1))), .int (Int32.ofNat v5), .int (Int32.ofNat eb), .null, .null, .null, .null, .null], [.int cg, .ref 84], (M8, J, rf_w r, sh_w N, n), (0, 0)) Q := fun cg S8 hcg g8 hS8 => by
          have smS8 : sm_S S8 := by
            rw [hS8]
            split
            · exact sm_co hB
            · exact fun b h => nomatch h
          have K9 : mg_K cnt M (mc_up M8 84 22 cg) := K8.tr mg_22
          refine bk_101_246 ⟨hcg, mc_inl (cm_take (lo := 2) (hi := 4) hB (mg_by K9 hb) g8 smS8 (by decide) (by decide) fun M9 m k9 g9 u9 w9 e9 _ => bk_101_255 ?_)⟩
          have K10 : mg_K cnt M M9 := K9.tr (mg_gt k9)
          have r9 : ∀ k, M9 88 k = M8 88 k := fun k => by rw [k9.1 88 (by decide), up_ne (by decide)]
          have e95 : M9 84 5 = Int32.ofNat cnt := by
            rw [k9.2 5 (by decide) (by decide), up_nk (by decide), n8 84 (by decide), k7.2.1 5 (by decide) (by decide)]
            exact e65
          rw [on_a2, on_a3, on_n (by omega), on_n (by omega), r9, r9, r8 _ (by omega) (by omega) (by omega), r8 _ (by omega) (by omega) (by omega), r6.2.2.1, r6.2.2.2.1, sh2, ← Int32.ofNat_mul]
          have hmul : v3 * v4 ≤ 64 := Nat.le_trans (Nat.mul_le_mul w3 w4) (by decide)
          -- when something was wrong
          have bad : ∀ (Ma : rl_M), mg_K cnt M Ma → Ma 84 22 = 0 → Ma 84 5 = Int32.ofNat cnt → pf_f B a sb s = none → mc_WP (101, 301, [.ref 84, .int (Int32.ofNat s.1), .int (Int32.ofNat s.2.1), .int s.2.2, .int (Int32.ofNat (9 * (cnt + 1))), .int (Int32.ofNat v5), .int (Int32.ofNat eb), .int (Int32.ofNat m), .int (Int32.ofNat v3), .int (Int32.ofNat v4), .null, .null], [], (Ma, J, rf_w r, sh_w N, n), (0, 0)) Q := fun Ma Ka ga ea hpf => by
            refine bk_101_301 ?_
            have fin : mc_WP (101, 389, [.ref 84, .int (Int32.ofNat s.1), .int (Int32.ofNat s.2.1), .int s.2.2, .int (Int32.ofNat (9 * (cnt + 1))), .int (Int32.ofNat v5), .int (Int32.ofNat eb), .int (Int32.ofNat m), .int (Int32.ofNat v3), .int (Int32.ofNat v4), .int 0, .null], [], (Ma, J, rf_w r, sh_w N, n), (0, 0)) Q := by
              refine bk_101_389 ?_
              rw [ea, on_1]
              exact hn _ (Ka.tr ⟨fun b q _ _ _ _ => up_ne q, fun k _ q => up_nk q, fun k _ => by rw [up_ne (by decide)], fun k _ => by rw [up_ne (by decide)], fun k _ => by rw [up_ne (by decide)]⟩) up_at hpf (by rw [up_nk (by decide)]; exact ga)
            exact bk_101_304 ⟨fun _ => fin, fun _ => ⟨fun _ => fin, fun q => absurd ga q⟩⟩
          refine ⟨on_vp (by omega) (by omega), on_vp (by omega) (by omega), fun q => ?_, fun q => mc_inl ?_⟩
          · refine bad M9 K10 q e95 ?_
            -- then one of the conditions fails
            cases hS9 : tk_S B 2 4 S8 with
            | some b =>
              rw [hS9] at g9
              exact absurd (g9.2.symm.trans q) (by decide)
            | none =>
              by_cases hC : pf_C B a
              · obtain ⟨hC4, hC5, hC6, hC7, hC8⟩ := id hC
                have ev5 : v5 = B.2 (a + 4) := by
                  obtain ⟨t1, t2, t3, t4⟩ := hC4
                  rw [tkS_some t1, tkS_some t2, tkS_some t3, tkS_some t4] at e5
                  exact e5 _ rfl hC5
                have eob : ob_v v5 = fl_b (B.2 (a + 4)) := by rw [ev5]; exact ob_fl hC6
                have ebe : eb = pf_e B a sb := by rw [heb, eob]; rfl
                cases hp : pf_d B a with
                | none => exact pf_1 hp
                | some p =>
                  obtain ⟨P, z⟩ := p
                  refine pf_2 hp fun hD => ?_
                  have : S8 = some (a + 5 + 3 * pf_n B a) := by
                    rw [hS8, ebe, if_pos hD.1, ev5, if_pos hC6, ch_4, if_pos hC4, tkS_some hC5, ← ev5, eob]
                    exact coS_some hC7
                  rw [this, tkS_some hC8] at hS9
                  cases hS9
              · exact pf_0 hC
          · -- all well so far
            cases hS9 : tk_S B 2 4 S8 with
            | none =>
              rw [hS9] at g9
              exact absurd g9 q
            | some z9 =>
              rw [hS9] at g9
              obtain ⟨b7, t1, t2, t3⟩ := tkS_inv hS9
              have hcl : s.2.2.toInt < ((2 ^ eb : Nat) : Int) := Classical.byContradiction fun y => by
                rw [hS8, if_neg y] at t1
                cases t1
              rw [hS8, if_pos hcl] at t1
              -- back along the bytes
              have hb6 : ∃ b6, (if fl_o v5 then tk_S B 0 15 (tk_S B 1 8 (tk_S B 1 8 (tk_S B 0 7 (tk_S B 0 7 (some a))))) else none) = some b6 ∧ b6 + 3 * cn_b (ob_v v5) ≤ B.1 ∧ b7 = b6 + 3 * cn_b (ob_v v5) := by
                cases hq : (if fl_o v5 then tk_S B 0 15 (tk_S B 1 8 (tk_S B 1 8 (tk_S B 0 7 (tk_S B 0 7 (some a))))) else none) with
                | none => rw [hq] at t1; cases t1
                | some b6 =>
                  rw [hq] at t1
                  by_cases y : b6 + 3 * cn_b (ob_v v5) ≤ B.1
                  · rw [coS_some y] at t1
                    exact ⟨b6, rfl, y, (Option.some.inj t1).symm⟩
                  · rw [coS_none y] at t1; cases t1
              obtain ⟨b6, hb6, hle6, hb7⟩ := hb6
              have hfo : fl_o v5 := Classical.byContradiction fun y => by rw [if_neg y] at hb6; cases hb6
              rw [if_pos hfo] at hb6
              obtain ⟨b5, hb5, ht5, hb56⟩ := tkS_inv hb6
              rw [ch_4] at hb5
              have hC4 : tk_v B a 0 7 ∧ tk_v B (a + 1) 0 7 ∧ tk_v B (a + 2) 1 8 ∧ tk_v B (a + 3) 1 8 := Classical.byContradiction fun y => by rw [if_neg y] at hb5; cases hb5
              rw [if_pos hC4] at hb5
              have hb5' : b5 = a + 4 := (Option.some.inj hb5).symm
              subst hb5'
              obtain ⟨h1, h2, h3, h4⟩ := id hC4
              rw [tkS_some h1] at e2
              rw [tkS_some h1, tkS_some h2] at e3
              rw [tkS_some h1, tkS_some h2, tkS_some h3] at e4
              rw [tkS_some h1, tkS_some h2, tkS_some h3, tkS_some h4] at e5 x7
              have ev1 := e1 _ rfl h1
              have ev2 := e2 _ rfl h2
              have ev3 := e3 _ rfl h3
              have ev4 := e4 _ rfl h4
              have ev5 := e5 _ rfl ht5
              have eob : ob_v v5 = fl_b (B.2 (a + 4)) := by rw [ev5]; rw [ev5] at hfo; exact ob_fl hfo
              have en : cn_b (ob_v v5) = pf_n B a := by rw [eob]; rfl
              have ebe : eb = pf_e B a sb := by rw [heb, eob]; rfl
              rw [en] at hle6 hb7 x7
              have hC : pf_C B a := ⟨hC4, ht5, by rw [← ev5]; exact hfo, by omega, by
                have hh := t2
                rw [hb7, hb56] at hh
                exact hh⟩
              have t2' : tk_v B (a + 5 + 3 * pf_n B a) 2 4 := hC.2.2.2.2
              have eb7 : b7 = a + 5 + 3 * pf_n B a := by omega
              have em : m = B.2 (a + 5 + 3 * pf_n B a) := by
                have := e9 b7 (by rw [hS8, if_pos hcl]; exact t1) t2
                rw [this, eb7]
              have hpd : pf_d B a = pd_f B (2 ^ m) (v3 * v4) z9 := by
                unfold pf_d
                rw [em, ev3, ev4, t3, eb7]
                congr 1
                omega
              refine cm_tdata (pl := 2 ^ eb) hB (mg_by K10 hb) ⟨u9, w9⟩ hmul g9 (by have := t2.1; omega) p16 (fun Ma Ka hbad ga => ?_) (fun Ma P z Ka hpdz hall ga pa => ?_)
              · refine bad Ma (K10.tr (mg_dq Ka)) ga (by rw [Ka.2 5 (by decide)]; exact e95) ?_
                rcases hbad with h | ⟨P, z, h, hne⟩
                · exact pf_1 (by rw [hpd]; exact h)
                · exact pf_2 (by rw [hpd]; exact h) fun hD => hne (by rw [ebe]; exact hD.2)
              · have hl := (pd_all h8 (p2_16 w9) hpdz).1
                have r9a : ∀ k, Ma 88 k = M8 88 k := fun k => by rw [Ka.1 88 (by decide) (by decide)]; exact r9 k
                have h9' : Int32.ofNat (v5 % 2) = 0 ∨ Int32.ofNat (v5 % 2) = 1 := by
                  rcases (show v5 % 2 = 0 ∨ v5 % 2 = 1 by omega) with y | y <;> rw [y]
                  · exact Or.inl rfl
                  · exact Or.inr rfl
                refine cm_lay (cnt := cnt) (i := 9 * (cnt + 1)) (vv := Int32.ofNat (v5 % 2)) rfl (by omega) (by rw [Ka.2 5 (by decide)]; exact e95) hc4 ⟨u3, w3⟩ ⟨u4, w4⟩ (by rw [r9a, r8 _ (by omega) (by omega) (by omega)]; exact r6.2.2.2.2.2) h9' ga.2 pa hl fun Mb kb nb eb5 k90 hpx => ?_
                have Kb : mg_K cnt M Mb := (K10.tr (mg_dq Ka)).tr ⟨fun b q1 _ _ q4 _ => kb b q1 q4, fun k _ q => nb k q, fun k _ => by rw [kb 88 (by decide) (by decide)], fun k _ => by rw [kb 89 (by decide) (by decide)], k90⟩
                have r9b : ∀ k, Mb 88 k = M8 88 k := fun k => by rw [kb 88 (by decide) (by decide)]; exact r9a k
                refine hk Mb (pf_r B a s P) z Kb eb5 (pf_3 hC (by rw [hpd]; exact hpdz) ⟨by rw [← ebe]; exact hcl, by rw [← ebe]; exact hall⟩) ⟨by rw [nb 21 (by decide)]; exact ga.1, by rw [nb 22 (by decide)]; exact ga.2⟩ ?_
                have rec1 : pf_r B a s P = ((v1, v2, v3, v4), (v5 % 2, ob_v v5), s, (fun k => if k < pf_n B a then cv_f B (a + 5 + 3 * k) else 0), P) := by unfold pf_r; rw [ev1, ev2, ev3, ev4, eob, ev5]
                rw [rec1]
                refine ⟨⟨?_, ?_, ?_, ?_⟩, ⟨?_, ?_, ?_, ?_, ?_⟩, fun k hk' => ?_, hpx⟩
                · rw [r9b, r8 _ (by omega) (by omega) (by omega)]; exact r6.1
                · rw [r9b, r8 _ (by omega) (by omega) (by omega)]; exact r6.2.1
                · rw [r9b, r8 _ (by omega) (by omega) (by omega)]; exact r6.2.2.1
                · rw [r9b, r8 _ (by omega) (by omega) (by omega)]; exact r6.2.2.2.1
                · rw [r9b, r8 _ (by omega) (by omega) (by omega)]; exact r6.2.2.2.2.1
                · rw [r9b]; exact q8.1
                · rw [r9b]; exact q8.2.1
                · rw [r9b]; exact q8.2.2
                · rw [r9b, r8 _ (by omega) (by omega) (by omega)]; exact r6.2.2.2.2.2
                · rw [kb 89 (by decide) (by decide), Ka.1 89 (by decide) (by decide), k9.1 89 (by decide), up_ne (by decide), n8 89 (by decide)]
                  have := x7 (a + 4 + 1) (by rw [if_pos hfo, tkS_some ht5]) (by omega) k hk'
                  rw [this]
        refine ⟨on_vp (by omega) (by omega), on_vp (by omega) (by omega), on_vp (by omega) (by omega), fun q => ?_, fun q => ⟨fun q2 => ?_, fun q2 => ?_⟩⟩
        · -- already wrong
          have hS : co_S B (cn_b (ob_v v5)) (if fl_o v5 then tk_S B 0 15 (tk_S B 1 8 (tk_S B 1 8 (tk_S B 0 7 (tk_S B 0 7 (some a))))) else none) = none := by
            cases hq : co_S B (cn_b (ob_v v5)) (if fl_o v5 then tk_S B 0 15 (tk_S B 1 8 (tk_S B 1 8 (tk_S B 0 7 (tk_S B 0 7 (some a))))) else none) with
            | none => rfl
            | some b =>
              rw [hq] at g7
              exact absurd (g7.2.symm.trans q) (by decide)
          exact bk_101_245 (tail 0 none (Or.inl rfl) up_at (by rw [hS]; split <;> rfl))
        · exact bk_101_245 (tail 0 none (Or.inl rfl) up_at (by rw [if_neg q2]))
        · have hcl := Classical.not_not.mp q2
          refine tail 1 _ (Or.inr rfl) ?_ (by rw [if_pos hcl])
          refine gd_cg (M := M7) g7 (by rw [up_nk (by decide), n8 84 (by decide)]) ?_
          rw [up_at]
          cases hq : co_S B (cn_b (ob_v v5)) (if fl_o v5 then tk_S B 0 15 (tk_S B 1 8 (tk_S B 1 8 (tk_S B 0 7 (tk_S B 0 7 (some a))))) else none) with
          | none => rw [hq] at g7; exact absurd g7 q
          | some b => rw [hq] at g7; exact g7.2.symm
      rw [on_a4, on_n (by omega), r7, r6.2.2.2.2.1]
      refine ⟨on_vp (by omega) (by omega), fun q => ?_, fun q => ⟨on_vp (by omega) (by omega), ?_⟩⟩
      · have h0 : ob_v v5 = 0 := by
          have := (on_le (m := 0) (by omega) (by omega)).mp q
          omega
        have e4 : M7 88 4 = Int32.ofNat eb := by
          rw [K7.2.2.1 4 (by omega), hs4, heb, if_pos h0]
        rw [e4]
        exact bits
      · have h0 : ¬ ob_v v5 = 0 := fun y => q (by rw [y]; decide)
        have e4 : ob_v v5 = eb := by rw [heb, if_neg h0]
        rw [e4]
        exact bits
    refine bk_101_111 ⟨hgd, ?_⟩
    rw [o1, o4, o5, on_a8, on_a4, on_n (by omega)]
    refine ⟨on_vp (by omega) (by omega), fun q => own _ ?_, fun q => own 0 ?_⟩
    · unfold ob_v; rw [if_neg q]
    · unfold ob_v; rw [if_pos (Classical.not_not.mp q)]; rfl
  refine bk_101_82 ?_
  rw [o3, o2]
  have dn : M5 84 22 = 0 → tk_S B 0 15 (tk_S B 1 8 (tk_S B 1 8 (tk_S B 0 7 (tk_S B 0 7 (some a))))) = none := fun h => by
    cases hq : tk_S B 0 15 (tk_S B 1 8 (tk_S B 1 8 (tk_S B 0 7 (tk_S B 0 7 (some a))))) with
    | none => rfl
    | some b =>
      rw [hq] at g5
      exact absurd (g5.2.symm.trans h) (by decide)
  have keep : ¬ M5 84 22 = 0 → fl_o v5 → gd_is (mc_up M5 84 22 1) (if fl_o v5 then tk_S B 0 15 (tk_S B 1 8 (tk_S B 1 8 (tk_S B 0 7 (tk_S B 0 7 (some a))))) else none) := fun h ho => by
    rw [if_pos ho]
    refine gd_cg g5 (up_nk (by decide)) ?_
    rw [up_at]
    cases hq : tk_S B 0 15 (tk_S B 1 8 (tk_S B 1 8 (tk_S B 0 7 (tk_S B 0 7 (some a))))) with
    | none => rw [hq] at g5; exact absurd g5 h
    | some b => rw [hq] at g5; exact g5.2.symm
  refine ⟨fun q => bk_101_110 (rest 0 (Or.inl rfl) ?_), fun q => ⟨fun q2 => bk_101_106 (rest 1 (Or.inr rfl) (keep q (Or.inl q2))), fun q2 => ⟨fun q3 => bk_101_110 (rest 0 (Or.inl rfl) ?_), fun q3 => bk_101_106 (rest 1 (Or.inr rfl) (keep q (Or.inr (Classical.not_not.mp q3))))⟩⟩⟩
  · rw [dn q]
    split <;> exact up_at
  · rw [if_neg (fun y => by rcases y with y | y; exact q2 y; exact q3 y)]
    exact up_at
end
