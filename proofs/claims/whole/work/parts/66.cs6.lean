section
variable {I : rl_M} {J : Nat → Nat → Int64} {r N n : Nat} {Q : mc_Q} {x4 : Int32} {x5 x6 : Value} {u : mc_U} {x1 x2 x y v : Int32} {f k : Nat}
/-- the reel, or a frame that is there -/
def ow_in (n x1 : Int32) : Prop := x1.toInt = -1 ∨ fr_in n x1
theorem i3_ne {a : Int32} : a = -1 ↔ a.toInt = -1 := by rw [← Int32.toInt_inj]; rfl
theorem cc_rown (hr : is_R r) (hR : rb_R (rl_v r I) (I 84 1) (I 85) (I 86) (I 87)) (h1 : ow_in (I 84 1) x1 → Q (.inl none) (I, J, rf_w r, sh_w N, n)) (h2 : ¬ ow_in (I 84 1) x1 → Q (.inr 1) (I, J, rf_w r, sh_w N, 0)) :
    mc_WP (mc_en 15 [.ref 10, .int x1] (I, J, rf_w r, sh_w N, n)) Q := by
  have hc : I r 4 = I 84 1 := by have := hR.2.1; rw [rl_v0 _ _ _ _ (by decide)] at this; exact this
  have hb := hR.1
  unfold ow_in fr_in at h1 h2
  refine bk_15_0 hr ⟨fun c => h1 (Or.inl (i3_ne.mp c)), fun c => ⟨fun d => h2 ?_, fun d => ⟨fun e => h2 ?_, fun e => h1 ?_⟩⟩⟩
  all_goals rw [i3_ne] at c
  all_goals (try rw [hc] at e)
  · simp only [Int32.lt_iff_toInt_lt, Int32.le_iff_toInt_le, Int32.toInt_add, Int32.toInt_sub, Int32.toInt_mul, Int.bmod_def, i3_m1, i3_0, i3_1, i3_2, i3_3, i3_4, i3_5, i3_6, i3_7, i3_8, i3_9, i3_10, i3_15, i3_16, i3_19, i3_20, i3_24, i3_31, i3_33, i3_44, i3_45, i3_48, i3_49, i3_59, i3_63, i3_64, i3_80, i3_100, i3_192, i3_200000, i3_254, i3_255, i3_256, i3_800, i3_16777215, i3_16777216] at d; omega
  · simp only [Int32.lt_iff_toInt_lt, Int32.le_iff_toInt_le, Int32.toInt_add, Int32.toInt_sub, Int32.toInt_mul, Int.bmod_def, i3_m1, i3_0, i3_1, i3_2, i3_3, i3_4, i3_5, i3_6, i3_7, i3_8, i3_9, i3_10, i3_15, i3_16, i3_19, i3_20, i3_24, i3_31, i3_33, i3_44, i3_45, i3_48, i3_49, i3_59, i3_63, i3_64, i3_80, i3_100, i3_192, i3_200000, i3_254, i3_255, i3_256, i3_800, i3_16777215, i3_16777216] at d e; omega
  · simp only [Int32.lt_iff_toInt_lt, Int32.le_iff_toInt_le, Int32.toInt_add, Int32.toInt_sub, Int32.toInt_mul, Int.bmod_def, i3_m1, i3_0, i3_1, i3_2, i3_3, i3_4, i3_5, i3_6, i3_7, i3_8, i3_9, i3_10, i3_15, i3_16, i3_19, i3_20, i3_24, i3_31, i3_33, i3_44, i3_45, i3_48, i3_49, i3_59, i3_63, i3_64, i3_80, i3_100, i3_192, i3_200000, i3_254, i3_255, i3_256, i3_800, i3_16777215, i3_16777216] at d e; omega
theorem i3_m1e {a : Int32} (h : a.toInt = -1) : a = -1 := i3_ne.mpr h
def gt_w (hs : rl_A) (g : Nat) (x2 : Int32) : Int32 := if x2.toInt = 4 then rl_cnt (hs (9 * g + 4)) else hs (9 * g + x2.toInt.toNat)
theorem gt_k {hs : rl_A} {g : Nat} {m : Nat} (h : x2.toInt = m) (hm : m ≠ 4) : gt_w hs g x2 = hs (9 * g + m) := by
  unfold gt_w
  rw [if_neg (by omega), h]
  rfl
theorem gt_4 {hs : rl_A} {g : Nat} (h : x2.toInt = 4) : gt_w hs g x2 = rl_cnt (hs (9 * g + 4)) := by
  unfold gt_w
  rw [if_pos h]
theorem cc_tell (hr : is_R r) (hf : f < 4) (hF : rb_F (rl_v r I) (I 85) (I 86) (I 87) f) (h8 : 0 ≤ x2.toInt ∧ x2.toInt ≤ 8) (h : Q (.inl (some (.int (gt_w (I 85) (f + 1) x2)))) (I, J, rf_w r, sh_w N, n)) :
    mc_WP (mc_en 142 [.ref (r + 4 + 4 * f), .int x2] (I, J, rf_w r, sh_w N, n)) Q := by
  have hiF : is_F (r + 4 + 4 * f) := by
    have := (wd_A (r := r) (N := N) (i := Int32.ofNat f) hr (by rw [vp_iff, Int32.toInt_ofNat_of_lt (by omega)]; omega)).2.2
    rw [Int32.toNatClampNeg_ofNat_of_lt (by omega)] at this
    exact this
  obtain ⟨a1, a2, -, -, -, -, -, -, -, a3, a4, -⟩ := hF
  have e2 : ∀ k, k < 4 → I (r + 4 + 4 * f) (2 + k) = I 85 (9 * (f + 1) + k) := fun k hk => by rw [fv_0 (I := I) hf]; exact a1 k hk
  have e6 : ∀ k, k < 4 → I (r + 4 + 4 * f) (6 + k) = I 85 (9 * (f + 1) + 5 + k) := fun k hk => by rw [fv_0 (I := I) hf]; exact a2 k hk
  have e4 : I (r + 4 + 4 * f + 2) 1 = rl_cnt (I 85 (9 * (f + 1) + 4)) := by rw [fv_2 (I := I) hf]; exact a4.2.1
  have key : ∀ w, gt_w (I 85) (f + 1) x2 = w → Q (.inl (some (.int w))) (I, J, rf_w r, sh_w N, n) := fun w hw => by rw [← hw]; exact h
  refine bk_142_0 hiF ⟨fun c => key _ ?_, fun _ => ⟨fun c => key _ ?_, fun _ => ⟨fun c => key _ ?_, fun _ => ⟨fun c => key _ ?_, fun _ => ⟨fun c => key _ ?_, fun _ => ⟨fun c => key _ ?_, fun _ => ⟨fun c => key _ ?_, fun _ => ⟨fun c => key _ ?_, fun _ => ⟨fun c => key _ ?_, fun c => key _ ?_⟩⟩⟩⟩⟩⟩⟩⟩⟩
  · rw [gt_k (m := 0) c (by decide)]; exact (e2 0 (by decide)).symm
  · rw [gt_k (m := 1) c (by decide)]; exact (e2 1 (by decide)).symm
  · rw [gt_k (m := 2) c (by decide)]; exact (e2 2 (by decide)).symm
  · rw [gt_k (m := 3) c (by decide)]; exact (e2 3 (by decide)).symm
  · rw [gt_4 c]; exact e4.symm
  · rw [gt_k (m := 5) c (by decide)]; exact (e6 0 (by decide)).symm
  · rw [gt_k (m := 6) c (by decide)]; exact (e6 1 (by decide)).symm
  · rw [gt_k (m := 7) c (by decide)]; exact (e6 2 (by decide)).symm
  · rw [gt_k (m := 8) (by omega) (by decide)]
    have := e6 3 (by decide)
    exact this.symm.trans c
  · rw [gt_k (m := 8) (by omega) (by decide)]
    have := e6 3 (by decide)
    rcases a3 with q | q
    · exact absurd (this.trans q) c
    · exact q
def gt_in (n x1 x2 : Int32) : Prop := ow_in n x1 ∧ 0 ≤ x2.toInt ∧ x2.toInt ≤ 8
def ow_g (x1 : Int32) : Nat := (x1.toInt + 1).toNat
theorem ow_f (h : 0 ≤ x1.toInt) : ow_g x1 = x1.toNatClampNeg + 1 := by
  unfold ow_g
  rw [i3_tn]
  omega
theorem cw_get (hr : is_R r) (hR : rb_R (rl_v r I) (I 84 1) (I 85) (I 86) (I 87)) (h1 : gt_in (I 84 1) x1 x2 → Q (.inl (some (.int 0))) (I, mc_up J 105 0 (gt_w (I 85) (ow_g x1) x2).toInt64, rf_w r, sh_w N, n)) (h2 : ¬ gt_in (I 84 1) x1 x2 → Q (.inl (some (.int 1))) (I, J, rf_w r, sh_w N, 0)) :
    mc_WP (mc_en 34 [.ref 10, .int x1, .int x2, .ref 105] (I, J, rf_w r, sh_w N, n)) Q := by
  unfold gt_in at h1 h2
  have hz : ∀ k, rl_v r I 0 k = I r k := fun k => rl_v0 _ _ _ _ (by decide)
  refine bk_34_0 (a3z := 1) rfl (mc_inl ?_)
  refine bk_6_0 (mc_inl ?_)
  refine cc_rown hr hR (fun c => ?_) (fun c => h2 (fun q => c q.1))
  have fin : 0 ≤ x2.toInt ∧ x2.toInt ≤ 8 → ∀ w, gt_w (I 85) (ow_g x1) x2 = w → mc_WP (34, 8, [.ref 10, .int x1, .int x2, .ref 105, .null], [.int w, .int 0, .ref 105], (I, J, rf_w r, sh_w N, n), (2, 12)) Q := fun q w hw =>
    bk_34_8 (a3z := 1) (b0z := 1) rfl rfl (by decide) ⟨by unfold vp_in; decide, by rw [← hw]; exact h1 ⟨c, q⟩⟩
  refine bk_6_5 hr ⟨fun d => h2 ?_, fun d => ⟨fun e => h2 ?_, fun e => ?_⟩⟩
  · simp only [Int32.lt_iff_toInt_lt, Int32.le_iff_toInt_le, Int32.toInt_add, Int32.toInt_sub, Int32.toInt_mul, Int.bmod_def, i3_m1, i3_0, i3_1, i3_2, i3_3, i3_4, i3_5, i3_6, i3_7, i3_8, i3_9, i3_10, i3_15, i3_16, i3_19, i3_20, i3_24, i3_31, i3_33, i3_44, i3_45, i3_48, i3_49, i3_59, i3_63, i3_64, i3_80, i3_100, i3_192, i3_200000, i3_254, i3_255, i3_256, i3_800, i3_16777215, i3_16777216] at d; omega
  · simp only [Int32.lt_iff_toInt_lt, Int32.le_iff_toInt_le, Int32.toInt_add, Int32.toInt_sub, Int32.toInt_mul, Int.bmod_def, i3_m1, i3_0, i3_1, i3_2, i3_3, i3_4, i3_5, i3_6, i3_7, i3_8, i3_9, i3_10, i3_15, i3_16, i3_19, i3_20, i3_24, i3_31, i3_33, i3_44, i3_45, i3_48, i3_49, i3_59, i3_63, i3_64, i3_80, i3_100, i3_192, i3_200000, i3_254, i3_255, i3_256, i3_800, i3_16777215, i3_16777216] at d e; omega
  · have h8 : 0 ≤ x2.toInt ∧ x2.toInt ≤ 8 := by simp only [Int32.lt_iff_toInt_lt, Int32.le_iff_toInt_le, Int32.toInt_add, Int32.toInt_sub, Int32.toInt_mul, Int.bmod_def, i3_m1, i3_0, i3_1, i3_2, i3_3, i3_4, i3_5, i3_6, i3_7, i3_8, i3_9, i3_10, i3_15, i3_16, i3_19, i3_20, i3_24, i3_31, i3_33, i3_44, i3_45, i3_48, i3_49, i3_59, i3_63, i3_64, i3_80, i3_100, i3_192, i3_200000, i3_254, i3_255, i3_256, i3_800, i3_16777215, i3_16777216] at d e; omega
    refine ⟨fun g => ?_, fun g => ?_⟩
    · have hf : fr_in (I 84 1) x1 := by
        rcases c with q | q
        · exact absurd (i3_m1e q) g
        · exact q
      obtain ⟨g1, g2, g3, g4⟩ := fr_f hR hf
      refine ⟨g4, mc_inl ?_⟩
      refine cc_tell hr g1 g3 h8 ?_
      refine bk_6_54 (fin h8 _ ?_)
      rw [ow_f hf.1]
    · have g' := Classical.not_not.mp g
      have hg : ow_g x1 = 0 := by rw [g']; rfl
      obtain ⟨-, b2, b3, b4, -, -, b7, -, b9, -⟩ := hR
      rw [hz] at b2 b3 b4
      refine ⟨fun a => bk_6_54 (fin h8 _ ?_), fun a => ⟨fun b => bk_6_54 (fin h8 _ ?_), fun b => ⟨fun a' => bk_6_54 (fin h8 _ ?_), fun a' => bk_6_54 (fin h8 _ ?_)⟩⟩⟩
      · rw [gt_k (m := 2) a (by decide), hg]; exact b3.symm
      · rw [gt_k (m := 3) b (by decide), hg]; exact b4.symm
      · rw [gt_4 a', hg]
        have := b9.2.1
        rw [rl_v0 _ _ _ _ (by decide)] at this
        exact this.symm
      · have hk : x2.toInt = 0 ∨ x2.toInt = 1 ∨ x2.toInt = 5 ∨ x2.toInt = 6 ∨ x2.toInt = 7 ∨ x2.toInt = 8 := by omega
        rcases hk with q | q | q | q | q | q
        · rw [gt_k (m := 0) q (by decide), hg]; exact b7.1
        · rw [gt_k (m := 1) q (by decide), hg]; exact b7.2.1
        · rw [gt_k (m := 5) q (by decide), hg]; exact b7.2.2.1
        · rw [gt_k (m := 6) q (by decide), hg]; exact b7.2.2.2.1
        · rw [gt_k (m := 7) q (by decide), hg]; exact b7.2.2.2.2.1
        · rw [gt_k (m := 8) q (by decide), hg]; exact b7.2.2.2.2.2
theorem ix_9g {k : Int32} (h : -1 ≤ x1.toInt ∧ x1.toInt < 4) (hk : 0 ≤ k.toInt ∧ k.toInt ≤ 8) : ((9 : Int32) * (x1 + 1) + k).toNatClampNeg = 9 * ow_g x1 + k.toInt.toNat ∧ vp_in ((9 : Int32) * (x1 + 1) + k) 45 := by
  unfold ow_g
  rw [vp_iff, i3_tn]
  have e : ((9 : Int32) * (x1 + 1) + k).toInt = 9 * (x1.toInt + 1) + k.toInt := by
    simp only [Int32.lt_iff_toInt_lt, Int32.le_iff_toInt_le, Int32.toInt_add, Int32.toInt_sub, Int32.toInt_mul, Int.bmod_def, i3_m1, i3_0, i3_1, i3_2, i3_3, i3_4, i3_5, i3_6, i3_7, i3_8, i3_9, i3_10, i3_15, i3_16, i3_19, i3_20, i3_24, i3_31, i3_33, i3_44, i3_45, i3_48, i3_49, i3_59, i3_63, i3_64, i3_80, i3_100, i3_192, i3_200000, i3_254, i3_255, i3_256, i3_800, i3_16777215, i3_16777216]
    omega
  rw [e]
  omega
theorem ix_16g {k : Int32} (h : -1 ≤ x1.toInt ∧ x1.toInt < 4) (hk : 0 ≤ k.toInt ∧ k.toInt ≤ 15) : ((16 : Int32) * (x1 + 1) + k).toNatClampNeg = 16 * ow_g x1 + k.toInt.toNat ∧ vp_in ((16 : Int32) * (x1 + 1) + k) 80 := by
  unfold ow_g
  rw [vp_iff, i3_tn]
  have e : ((16 : Int32) * (x1 + 1) + k).toInt = 16 * (x1.toInt + 1) + k.toInt := by
    simp only [Int32.lt_iff_toInt_lt, Int32.le_iff_toInt_le, Int32.toInt_add, Int32.toInt_sub, Int32.toInt_mul, Int.bmod_def, i3_m1, i3_0, i3_1, i3_2, i3_3, i3_4, i3_5, i3_6, i3_7, i3_8, i3_9, i3_10, i3_15, i3_16, i3_19, i3_20, i3_24, i3_31, i3_33, i3_44, i3_45, i3_48, i3_49, i3_59, i3_63, i3_64, i3_80, i3_100, i3_192, i3_200000, i3_254, i3_255, i3_256, i3_800, i3_16777215, i3_16777216]
    omega
  rw [e]
  omega
theorem cm_get {c : rl_M} (hR : rb_R c (I 84 1) (I 85) (I 86) (I 87)) (h1 : gt_in (I 84 1) x1 x2 → Q (.inl (some (.int (gt_w (I 85) (ow_g x1) x2)))) (mc_up I 84 0 0, J, rf_w r, sh_w N, n)) (h2 : ¬ gt_in (I 84 1) x1 x2 → Q (.inl (some (.int 0))) (mc_up I 84 0 1, J, rf_w r, sh_w N, n)) :
    mc_WP (mc_en 72 [.ref 84, .int x1, .int x2] (I, J, rf_w r, sh_w N, n)) Q := by
  unfold gt_in ow_in fr_in at h1 h2
  have hb := hR.1
  have key : (x1.toInt = -1 ∨ 0 ≤ x1.toInt ∧ x1.toInt < (I 84 1).toInt) → 0 ≤ x2.toInt ∧ x2.toInt ≤ 8 → vp_in ((9 : Int32) * (x1 + 1) + x2) 45 ∧
      (¬ x2 = 4 → Q (.inl (some (.int (I 85 ((9 : Int32) * (x1 + 1) + x2).toNatClampNeg)))) (mc_up I 84 0 0, J, rf_w r, sh_w N, n)) ∧
      (¬ ¬ x2 = 4 → (¬ I 85 ((9 : Int32) * (x1 + 1) + x2).toNatClampNeg = 0 → Q (.inl (some (.int (1 <<< (I 85 ((9 : Int32) * (x1 + 1) + x2).toNatClampNeg &&& 31))))) (mc_up I 84 0 0, J, rf_w r, sh_w N, n)) ∧
        (¬ ¬ I 85 ((9 : Int32) * (x1 + 1) + x2).toNatClampNeg = 0 → Q (.inl (some (.int 0))) (mc_up I 84 0 0, J, rf_w r, sh_w N, n))) := by
    intro q1 q2
    have e := ix_9g (x1 := x1) (k := x2) (by omega) q2
    have hq := h1 ⟨q1, q2⟩
    rw [e.1]
    refine ⟨e.2, fun a => ?_, fun a => ?_⟩
    · have a' : ¬ x2.toInt = 4 := fun z => a (Int32.toInt_inj.mp z)
      unfold gt_w at hq
      rw [if_neg a'] at hq
      exact hq
    · have a' := Classical.not_not.mp a
      rw [a'] at hq ⊢
      rw [gt_4 rfl] at hq
      rw [show ((4 : Int32).toInt).toNat = 4 from rfl]
      unfold rl_cnt at hq
      refine ⟨fun b => ?_, fun b => ?_⟩
      · rw [if_neg b] at hq
        exact hq
      · rw [if_pos (Classical.not_not.mp b)] at hq
        exact hq
  refine bk_72_0 ⟨fun a => ⟨fun b => h2 ?_, fun b => ⟨fun d => h2 ?_, fun d => key ?_ ?_⟩⟩, fun a => ⟨fun b => h2 ?_, fun b => ⟨fun d => h2 ?_, fun d => ⟨fun b' => h2 ?_, fun b' => ⟨fun d' => h2 ?_, fun d' => key ?_ ?_⟩⟩⟩⟩⟩
  all_goals rw [i3_ne] at a
  · simp only [Int32.lt_iff_toInt_lt, Int32.le_iff_toInt_le, Int32.toInt_add, Int32.toInt_sub, Int32.toInt_mul, Int.bmod_def, i3_m1, i3_0, i3_1, i3_2, i3_3, i3_4, i3_5, i3_6, i3_7, i3_8, i3_9, i3_10, i3_15, i3_16, i3_19, i3_20, i3_24, i3_31, i3_33, i3_44, i3_45, i3_48, i3_49, i3_59, i3_63, i3_64, i3_80, i3_100, i3_192, i3_200000, i3_254, i3_255, i3_256, i3_800, i3_16777215, i3_16777216] at b; omega
  · simp only [Int32.lt_iff_toInt_lt, Int32.le_iff_toInt_le, Int32.toInt_add, Int32.toInt_sub, Int32.toInt_mul, Int.bmod_def, i3_m1, i3_0, i3_1, i3_2, i3_3, i3_4, i3_5, i3_6, i3_7, i3_8, i3_9, i3_10, i3_15, i3_16, i3_19, i3_20, i3_24, i3_31, i3_33, i3_44, i3_45, i3_48, i3_49, i3_59, i3_63, i3_64, i3_80, i3_100, i3_192, i3_200000, i3_254, i3_255, i3_256, i3_800, i3_16777215, i3_16777216] at b d; omega
  · exact Or.inl a
  · simp only [Int32.lt_iff_toInt_lt, Int32.le_iff_toInt_le, Int32.toInt_add, Int32.toInt_sub, Int32.toInt_mul, Int.bmod_def, i3_m1, i3_0, i3_1, i3_2, i3_3, i3_4, i3_5, i3_6, i3_7, i3_8, i3_9, i3_10, i3_15, i3_16, i3_19, i3_20, i3_24, i3_31, i3_33, i3_44, i3_45, i3_48, i3_49, i3_59, i3_63, i3_64, i3_80, i3_100, i3_192, i3_200000, i3_254, i3_255, i3_256, i3_800, i3_16777215, i3_16777216] at b d; omega
  · simp only [Int32.lt_iff_toInt_lt, Int32.le_iff_toInt_le, Int32.toInt_add, Int32.toInt_sub, Int32.toInt_mul, Int.bmod_def, i3_m1, i3_0, i3_1, i3_2, i3_3, i3_4, i3_5, i3_6, i3_7, i3_8, i3_9, i3_10, i3_15, i3_16, i3_19, i3_20, i3_24, i3_31, i3_33, i3_44, i3_45, i3_48, i3_49, i3_59, i3_63, i3_64, i3_80, i3_100, i3_192, i3_200000, i3_254, i3_255, i3_256, i3_800, i3_16777215, i3_16777216] at b; omega
  · simp only [Int32.lt_iff_toInt_lt, Int32.le_iff_toInt_le, Int32.toInt_add, Int32.toInt_sub, Int32.toInt_mul, Int.bmod_def, i3_m1, i3_0, i3_1, i3_2, i3_3, i3_4, i3_5, i3_6, i3_7, i3_8, i3_9, i3_10, i3_15, i3_16, i3_19, i3_20, i3_24, i3_31, i3_33, i3_44, i3_45, i3_48, i3_49, i3_59, i3_63, i3_64, i3_80, i3_100, i3_192, i3_200000, i3_254, i3_255, i3_256, i3_800, i3_16777215, i3_16777216] at b d; omega
  · simp only [Int32.lt_iff_toInt_lt, Int32.le_iff_toInt_le, Int32.toInt_add, Int32.toInt_sub, Int32.toInt_mul, Int.bmod_def, i3_m1, i3_0, i3_1, i3_2, i3_3, i3_4, i3_5, i3_6, i3_7, i3_8, i3_9, i3_10, i3_15, i3_16, i3_19, i3_20, i3_24, i3_31, i3_33, i3_44, i3_45, i3_48, i3_49, i3_59, i3_63, i3_64, i3_80, i3_100, i3_192, i3_200000, i3_254, i3_255, i3_256, i3_800, i3_16777215, i3_16777216] at b'; omega
  · simp only [Int32.lt_iff_toInt_lt, Int32.le_iff_toInt_le, Int32.toInt_add, Int32.toInt_sub, Int32.toInt_mul, Int.bmod_def, i3_m1, i3_0, i3_1, i3_2, i3_3, i3_4, i3_5, i3_6, i3_7, i3_8, i3_9, i3_10, i3_15, i3_16, i3_19, i3_20, i3_24, i3_31, i3_33, i3_44, i3_45, i3_48, i3_49, i3_59, i3_63, i3_64, i3_80, i3_100, i3_192, i3_200000, i3_254, i3_255, i3_256, i3_800, i3_16777215, i3_16777216] at b' d'; omega
  · simp only [Int32.lt_iff_toInt_lt, Int32.le_iff_toInt_le, Int32.toInt_add, Int32.toInt_sub, Int32.toInt_mul, Int.bmod_def, i3_m1, i3_0, i3_1, i3_2, i3_3, i3_4, i3_5, i3_6, i3_7, i3_8, i3_9, i3_10, i3_15, i3_16, i3_19, i3_20, i3_24, i3_31, i3_33, i3_44, i3_45, i3_48, i3_49, i3_59, i3_63, i3_64, i3_80, i3_100, i3_192, i3_200000, i3_254, i3_255, i3_256, i3_800, i3_16777215, i3_16777216] at b d; omega
  · simp only [Int32.lt_iff_toInt_lt, Int32.le_iff_toInt_le, Int32.toInt_add, Int32.toInt_sub, Int32.toInt_mul, Int.bmod_def, i3_m1, i3_0, i3_1, i3_2, i3_3, i3_4, i3_5, i3_6, i3_7, i3_8, i3_9, i3_10, i3_15, i3_16, i3_19, i3_20, i3_24, i3_31, i3_33, i3_44, i3_45, i3_48, i3_49, i3_59, i3_63, i3_64, i3_80, i3_100, i3_192, i3_200000, i3_254, i3_255, i3_256, i3_800, i3_16777215, i3_16777216] at b' d'; omega
theorem lc_get (hI : rl_I r I) (hN : N ≤ 3074) (hx : 0 ≤ x4.toInt ∧ x4.toInt + 6 ≤ N) (hu : u.1 + 3 ≤ 601024 ∧ u.2 + 18 ≤ 7293000) (hn : lw_nx N x4 u Q) : mc_WP (42, 574, [.ref 1, .ref 10, .ref 84, .ref 105, .int x4, x5, x6], [], (I, J, rf_w r, sh_w N, n), u) Q := by
  have hI' := hI
  obtain ⟨hr, hR, hB, hP, hC, hK⟩ := hI
  refine bk_42_574 ⟨lw_i hN hx (by decide), lw_i hN hx (by decide), by omega, by omega, mc_inl ?_⟩
  refine cw_get hr hR (fun c => ?_) (fun c => ?_)
  · refine bk_42_591 ⟨lw_i hN hx (by decide), lw_i hN hx (by decide), by show u.1 + 2 + 0 ≤ _; omega, by show u.2 + 12 + 0 ≤ _; omega, mc_inl ?_⟩
    refine cm_get hR (fun _ => ?_) (fun q => absurd c q)
    exact le_609 hI'.thr up_at (fun _ => if_pos ⟨rfl, rfl⟩) hu (by constructor <;> show _ + _ ≤ _ <;> omega) hn
  · refine bk_42_591 ⟨lw_i hN hx (by decide), lw_i hN hx (by decide), by show u.1 + 2 + 0 ≤ _; omega, by show u.2 + 12 + 0 ≤ _; omega, mc_inl ?_⟩
    refine cm_get hR (fun q => absurd q c) (fun _ => ?_)
    exact le_609 hI'.thr up_at (fun q => absurd q (by decide)) hu (by constructor <;> show _ + _ ≤ _ <;> omega) hn
end
