section
variable {I M : rl_M} {J : Nat → Nat → Int64} {r N n : Nat} {Q : mc_Q} {a b k j f : Nat} {v x1 : Int32}
theorem is_Pf (hr : is_R r) (hf : f < 4) : is_P (r + 4 + 4 * f + 2) := by
  rcases is_Rb hr with rfl | rfl <;> (rcases (show f = 0 ∨ f = 1 ∨ f = 2 ∨ f = 3 by omega) with rfl | rfl | rfl | rfl <;> decide)
theorem dw_R (hr : is_R r) (hM : ∀ b, ¬ b = 12 → ¬ b = 13 → M b = I b) (hR : rb_R (rl_v r I) (I 84 1) (I 85) (I 86) (I 87)) : rb_R (rl_v r M) (M 84 1) (M 85) (M 86) (M 87) := by
  have hb := is_Rb hr
  rw [rl_vc (I := I) (fun o _ => hM (r + o) (by omega) (by omega)), hM 84 (by decide) (by decide), hM 85 (by decide) (by decide), hM 86 (by decide) (by decide), hM 87 (by decide) (by decide)]
  exact hR
set_option maxHeartbeats 2000000 in
theorem dc_all {c : Nat} (hr : is_R r) (hR : rb_R (rl_v r I) (I 84 1) (I 85) (I 86) (I 87)) (hc : (c : Int) ≤ (I 84 1).toInt)
    (hk : ∀ M, (∀ b, ¬ b = 12 → ¬ b = 13 → M b = I b) → (∀ X Y : Nat, X < 8 → Y < 8 → M 12 (8 * Y + X) = (dp_v (I 85) (I 86) (I 87) X Y c).1) → Q (.inl none) (M, J, rf_w r, sh_w N, n)) :
    mc_WP (mc_en 128 [.ref 11, .ref r, .int (Int32.ofNat c)] (I, J, rf_w r, sh_w N, n)) Q := by
  have h4 := hR.1
  have hb := is_Rb hr
  refine bk_128_0 hr (mc_inl ?_)
  refine bk_127_0 (mc_inl ?_)
  refine cc_fill (z := 64) rfl (by decide) (by decide) (bk_127_8 ?_)
  refine bk_128_4 hr ?_
  refine lp_go (C := fun i (M : rl_M) => (128, 6, [.ref 11, .ref r, .int (Int32.ofNat c), .int (Int32.ofNat i)], [], (M, J, rf_w r, sh_w N, n), (0, 0))) (P := fun i M => (∀ b, ¬ b = 12 → ¬ b = 13 → M b = I b) ∧ ∀ X Y : Nat, X < 8 → Y < 8 → M 12 (8 * Y + X) = (dp_v (I 85) (I 86) (I 87) X Y i).1 ∧ (0 < i → M 13 (8 * Y + X) = (dp_v (I 85) (I 86) (I 87) X Y i).2)) c _ ⟨fun b h1 _ => fl_ne h1, fun X Y hX hY => ⟨fl_in (by omega), fun q => absurd q (by decide)⟩⟩ ?_ ?_
  · intro i hi M ⟨hM, hK⟩ next
    try dsimp only at hM hK next ⊢
    have hRM := dw_R hr hM hR
    have m84 := hM 84 (by decide) (by decide)
    have m85 := hM 85 (by decide) (by decide)
    have m86 := hM 86 (by decide) (by decide)
    have m87 := hM 87 (by decide) (by decide)
    -- the frame is drawn over M', whose canvas is K
    have draw : ∀ M' : rl_M, (∀ b, ¬ b = 12 → ¬ b = 13 → M' b = I b) → (∀ X Y : Nat, X < 8 → Y < 8 → M' 12 (8 * Y + X) = (dp_v (I 85) (I 86) (I 87) X Y (i + 1)).2) → mc_WP (128, 28, [.ref 11, .ref r, .int (Int32.ofNat c), .int (Int32.ofNat i)], [], (M', J, rf_w r, sh_w N, n), (0, 0)) Q := by
      intro M' hM' hK'
      have cp : ∀ b, ¬ b = 12 → ¬ b = 13 → mc_cpy M' 12 13 0 0 64 b = I b := fun b h1 h2 => by
        refine Eq.trans ?_ (hM' b h1 h2)
        funext j
        unfold mc_cpy
        rw [if_neg (fun z => h2 z.1)]
      have cp12 : mc_cpy M' 12 13 0 0 64 12 = M' 12 := by
        funext j
        unfold mc_cpy
        rw [if_neg (fun z => absurd z.1 (by decide))]
      have cp13 : ∀ j, j < 64 → mc_cpy M' 12 13 0 0 64 13 j = M' 12 j := fun j hj => by
        unfold mc_cpy
        rw [if_pos ⟨rfl, by omega, by omega⟩]
        congr 1
        omega
      have hRC := dw_R hr cp hR
      have hfi : (i : Int) < (mc_cpy M' 12 13 0 0 64 84 1).toInt := by rw [cp 84 (by decide) (by decide)]; omega
      obtain ⟨p1, p2⟩ := dw_pal hr hRC hfi
      have fin : ∀ M2 : rl_M, (∀ b, ¬ b = 12 → M2 b = mc_cpy M' 12 13 0 0 64 b) → (∀ X Y : Nat, X < 8 → Y < 8 → M2 12 (8 * Y + X) = dw_v (mc_cpy M' 12 13 0 0 64 85) (mc_cpy M' 12 13 0 0 64 86) (mc_cpy M' 12 13 0 0 64 87) i X Y (mc_cpy M' 12 13 0 0 64 12 (8 * Y + X))) → mc_WP (128, 64, [.ref 11, .ref r, .int (Int32.ofNat c), .int (Int32.ofNat i)], [], (M2, J, rf_w r, sh_w N, n), (0, 0)) Q := by
        intro M2 h1 h2
        refine bk_128_64 hr ?_
        rw [on_1]
        refine next M2 ⟨fun b q1 q2 => (h1 b q1).trans (cp b q1 q2), fun X Y hX hY => ⟨?_, fun _ => ?_⟩⟩
        · rw [h2 X Y hX hY, cp12, cp 85 (by decide) (by decide), cp 86 (by decide) (by decide), cp 87 (by decide) (by decide), hK' X Y hX hY]
          rfl
        · rw [h1 13 (by decide), cp13 _ (by omega), hK' X Y hX hY]
      refine bk_128_28 hr ?_
      rw [on_n (by omega)]
      refine ⟨on_vp (by omega) (by omega), on_vp (by omega) (by omega), fun q => mc_inl ?_, fun q => mc_inl ?_⟩
      · exact dc_one hr hRC hfi (wd_R (r := r) (N := N) hr).2.2.2.2.1 (p1 q) fin
      · exact dc_one hr hRC hfi (is_Pf hr (by omega)) (p2 q) fin
    refine bk_128_6 hr ⟨fun q => absurd ((on_le (by omega) (by omega)).mp q) (by omega), fun _ => ⟨fun q => draw M hM fun X Y hX hY => ?_, fun q => ?_⟩⟩
    · rw [show (0 : Int32) = Int32.ofNat 0 from rfl, on_le (by omega) (by omega)] at q
      have q0 : i = 0 := by omega
      subst q0
      exact (hK X Y hX hY).1
    · rw [show (0 : Int32) = Int32.ofNat 0 from rfl, on_le (by omega) (by omega)] at q
      rw [show (1 : Int32) = Int32.ofNat 1 from rfl, on_sub (by omega), on_n (by omega)]
      refine ⟨on_vp (by omega) (by omega), mc_inl ?_⟩
      refine dc_disp hr hRM (by rw [m84]; omega) fun M2 h1 h2 => draw M2 (fun b q1 q2 => (h1 b q1).trans (hM b q1 q2)) fun X Y hX hY => ?_
      rw [h2 X Y hX hY, (hK X Y hX hY).1, (hK X Y hX hY).2 (by omega), m85]
      show _ = (if i = 0 then _ else _)
      rw [if_neg (by omega)]
  · intro M ⟨hM, hK⟩
    try dsimp only at hM hK ⊢
    refine bk_128_6 hr ⟨fun _ => hk M hM fun X Y hX hY => (hK X Y hX hY).1, fun q => absurd ((on_le (by omega) (by omega)).mpr (Nat.le_refl _)) q⟩
/-- how many points show a colour -/
def dn_c (K : rl_A) : Nat → Nat
  | 0 => 0
  | k + 1 => dn_c K k + (if K k = -1 then 0 else 1)
theorem dn_le (K : rl_A) : ∀ k, dn_c K k ≤ k
  | 0 => Nat.le_refl _
  | k + 1 => by have := dn_le K k; unfold dn_c; split <;> omega
theorem dn_eq {K L : rl_A} : ∀ k, (∀ j, j < k → K j = L j) → dn_c K k = dn_c L k
  | 0, _ => rfl
  | k + 1, h => by unfold dn_c; rw [dn_eq k (fun j hj => h j (by omega)), h k (by omega)]
theorem dc_cnt (hk : Q (.inl (some (.int (Int32.ofNat (dn_c (I 12) 64))))) (I, J, rf_w r, sh_w N, n)) : mc_WP (mc_en 129 [.ref 11] (I, J, rf_w r, sh_w N, n)) Q := by
  refine bk_129_0 ?_
  refine lp_go (C := fun i (_ : Unit) => (129, 4, [.ref 11, .int (Int32.ofNat (dn_c (I 12) i)), .int (Int32.ofNat i)], [], (I, J, rf_w r, sh_w N, n), (0, 0))) (P := fun _ _ => True) 64 () trivial ?_ ?_
  · intro i hi _ _ next
    refine bk_129_4 ⟨fun q => absurd ((on_le (k := 64) (by omega) (by omega)).mp q) (by omega), fun _ => ?_⟩
    have nx := next () trivial
    rw [on_n (by omega), on_1, on_1]
    unfold dn_c at nx
    refine ⟨on_vp (by omega) hi, fun q => ?_, fun q => ?_⟩
    · rw [if_neg q] at nx; exact nx
    · rw [if_pos (Classical.not_not.mp q)] at nx
      rw [show Int32.ofNat (dn_c (I 12) i) + 0 = Int32.ofNat (dn_c (I 12) i + 0) by rw [Int32.ofNat_add]; rfl]
      exact nx
  · intro _ _
    exact bk_129_4 ⟨fun _ => hk, fun q => absurd ((on_le (k := 64) (by omega) (by omega)).mpr (Nat.le_refl _)) q⟩
def dr_in (n x1 : Int32) : Prop := 0 ≤ x1.toInt ∧ x1.toInt ≤ n.toInt
theorem cw_draw (hr : is_R r) (hR : rb_R (rl_v r I) (I 84 1) (I 85) (I 86) (I 87)) (h1 : dr_in (I 84 1) x1 → ∀ M, (∀ b, ¬ b = 12 → ¬ b = 13 → M b = I b) → (∀ X Y : Nat, X < 8 → Y < 8 → M 12 (8 * Y + X) = (dp_v (I 85) (I 86) (I 87) X Y x1.toNatClampNeg).1) → Q (.inl (some (.int 0))) (M, mc_up J 105 0 (Int32.ofNat (dn_c (M 12) 64)).toInt64, rf_w r, sh_w N, n)) (h2 : ¬ dr_in (I 84 1) x1 → Q (.inl (some (.int 1))) (I, J, rf_w r, sh_w N, 0)) :
    mc_WP (mc_en 38 [.ref 10, .int x1, .ref 105] (I, J, rf_w r, sh_w N, n)) Q := by
  have c4 : I r 4 = I 84 1 := by have := hR.2.1; rw [rl_v0 _ _ _ _ (by decide)] at this; exact this
  unfold dr_in at h1 h2
  refine bk_38_0 (a2z := 1) rfl (mc_inl ?_)
  refine bk_10_0 hr ?_
  rw [c4]
  refine ⟨fun q => h2 ?_, fun q => ⟨fun q2 => h2 ?_, fun q2 => mc_inl ?_⟩⟩
  · simp only [Int32.lt_iff_toInt_lt, Int32.le_iff_toInt_le, Int32.toInt_add, Int32.toInt_sub, Int32.toInt_mul, Int.bmod_def, i3_m1, i3_0, i3_1, i3_2, i3_3, i3_4, i3_5, i3_6, i3_7, i3_8, i3_9, i3_10, i3_15, i3_16, i3_19, i3_20, i3_24, i3_31, i3_33, i3_44, i3_45, i3_48, i3_49, i3_59, i3_63, i3_64, i3_80, i3_100, i3_192, i3_200000, i3_254, i3_255, i3_256, i3_800, i3_16777215, i3_16777216] at q; omega
  · simp only [Int32.lt_iff_toInt_lt, Int32.le_iff_toInt_le, Int32.toInt_add, Int32.toInt_sub, Int32.toInt_mul, Int.bmod_def, i3_m1, i3_0, i3_1, i3_2, i3_3, i3_4, i3_5, i3_6, i3_7, i3_8, i3_9, i3_10, i3_15, i3_16, i3_19, i3_20, i3_24, i3_31, i3_33, i3_44, i3_45, i3_48, i3_49, i3_59, i3_63, i3_64, i3_80, i3_100, i3_192, i3_200000, i3_254, i3_255, i3_256, i3_800, i3_16777215, i3_16777216] at q2; omega
  · rw [Int32.lt_iff_toInt_lt, i3_0] at q
    rw [Int32.lt_iff_toInt_lt] at q2
    obtain ⟨c, e1, e2, e3, -⟩ := on_get (v := x1) (by omega)
    rw [e1]
    rw [e3] at h1
    refine dc_all hr hR (by omega) fun M hM hK => ?_
    refine bk_10_37 (mc_inl ?_)
    refine dc_cnt ?_
    refine bk_10_44 ?_
    refine bk_38_7 (a2z := 1) (b0z := 1) rfl rfl (by decide) ⟨by unfold vp_in; decide, ?_⟩
    exact h1 (by omega) M hM hK
end
