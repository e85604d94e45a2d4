section
variable {I : rl_M} {J : Nat → Nat → Int64} {r N n : Nat} {Q : mc_Q} {x4 : Int32} {x5 x6 : Value} {u : mc_U} {x1 x2 x y v b : Int32} {f k g o : Nat}
/-- palette g lies at offset o -/
def og_is (o g : Nat) : Prop := (o = 1 ∧ g = 0) ∨ ∃ f, f < 4 ∧ o = 4 + 4 * f + 2 ∧ g = f + 1
theorem rb_pal.set {c : rl_M} {hs cs : rl_A} (h : rb_pal c hs cs o g) (hk : k < 16) (hkc : (k : Int) < (rl_cnt (hs (9 * g + 4))).toInt) (hv : 0 ≤ v.toInt ∧ v.toInt < 16777216) : rb_pal (mc_up c (o + 1) k v) hs (fun j => if j = 16 * g + k then v else cs j) o g := by
  obtain ⟨h1, h2, h3⟩ := h
  refine ⟨h1, by rw [up_ne (by omega)]; exact h2, fun j hj => ?_⟩
  show mc_up c (o + 1) k v (o + 1) j = (if 16 * g + j = 16 * g + k then v else cs (16 * g + j)) ∧ (0 ≤ (if 16 * g + j = 16 * g + k then v else cs (16 * g + j)).toInt ∧ (if 16 * g + j = 16 * g + k then v else cs (16 * g + j)).toInt < 16777216) ∧ ((rl_cnt (hs (9 * g + 4))).toInt ≤ j → (if 16 * g + j = 16 * g + k then v else cs (16 * g + j)) = 0)
  by_cases e : j = k
  · subst e
    rw [up_at, if_pos rfl]
    exact ⟨rfl, hv, fun q => by omega⟩
  · rw [up_nk e, if_neg (by omega)]
    exact h3 j hj
theorem rb_pal.oth {c : rl_M} {hs cs : rl_A} {o' g' : Nat} (h : rb_pal c hs cs o' g') (hk : k < 16) (h1 : ¬ o' = o + 1) (h2 : ¬ o' = o) (h3 : ¬ g' = g) : rb_pal (mc_up c (o + 1) k v) hs (fun j => if j = 16 * g + k then v else cs j) o' g' := by
  obtain ⟨a1, a2, a3⟩ := h
  refine ⟨a1, by rw [up_ne h1]; exact a2, fun j hj => ?_⟩
  show mc_up c (o + 1) k v (o' + 1) j = (if 16 * g' + j = 16 * g + k then v else cs (16 * g' + j)) ∧ (0 ≤ (if 16 * g' + j = 16 * g + k then v else cs (16 * g' + j)).toInt ∧ (if 16 * g' + j = 16 * g + k then v else cs (16 * g' + j)).toInt < 16777216) ∧ ((rl_cnt (hs (9 * g' + 4))).toInt ≤ j → (if 16 * g' + j = 16 * g + k then v else cs (16 * g' + j)) = 0)
  rw [up_ne (by omega), if_neg (by omega)]
  exact a3 j hj
theorem rb_R.colour {c : rl_M} {m : Int32} {hs cs ps : rl_A} (hR : rb_R c m hs cs ps) (hog : og_is o g) (hk : k < 16) (hkc : (k : Int) < (rl_cnt (hs (9 * g + 4))).toInt) (hv : 0 ≤ v.toInt ∧ v.toInt < 16777216) : rb_R (mc_up c (o + 1) k v) m hs (fun j => if j = 16 * g + k then v else cs j) ps := by
  obtain ⟨g1, g2, g3, g4, g5, g6, g7, g8, g9, g10⟩ := hR
  have ho : ¬ o + 1 = 0 := by omega
  have ho4 : ∀ f', ¬ o + 1 = 4 + 4 * f' ∧ ¬ o + 1 = 4 + 4 * f' + 1 ∧ ¬ o + 1 = 4 + 4 * f' + 2 := by
    intro f'
    rcases hog with ⟨q, -⟩ | ⟨f, q0, q, -⟩ <;> omega
  refine ⟨g1, by rw [up_ne (by omega)]; exact g2, by rw [up_ne (by omega)]; exact g3, by rw [up_ne (by omega)]; exact g4, g5, g6, g7, g8, ?_, fun f' hf' => ?_⟩
  · rcases hog with ⟨rfl, rfl⟩ | ⟨f, q0, rfl, rfl⟩
    · exact g9.set hk hkc hv
    · exact g9.oth hk (by omega) (by omega) (by omega)
  · obtain ⟨a1, a2, a3, a4, a5, a6, a7, a8, a9, a10, a11, a12⟩ := g10 f' hf'
    have h4 := ho4 f'
    refine ⟨fun k hk => by rw [up_ne (by omega)]; exact a1 k hk, fun k hk => by rw [up_ne (by omega)]; exact a2 k hk, a3, a4, a5, a6, a7, a8, a9, a10, ?_, ?_⟩
    · rcases hog with ⟨rfl, rfl⟩ | ⟨f, q0, rfl, rfl⟩
      · exact a11.oth hk (by omega) (by omega) (by omega)
      · by_cases e : f' = f
        · subst e
          exact a11.set hk hkc hv
        · exact a11.oth hk (by omega) (by omega) (by omega)
    · intro yy hy z hz
      rw [up_ne (by omega)]
      exact a12 yy hy z hz
def cw_in (n : Int32) (hs : rl_A) (x1 x2 : Int32) : Prop := ow_in n x1 ∧ 0 ≤ x2.toInt ∧ x2.toInt < (rl_cnt (hs (9 * ow_g x1 + 4))).toInt
/-- the offset of the owner's palette -/
def ow_o (x1 : Int32) : Nat := if x1.toInt = -1 then 1 else 4 + 4 * x1.toNatClampNeg + 2
theorem ow_og {c : rl_M} {m : Int32} {hs cs ps : rl_A} (hR : rb_R c m hs cs ps) (h : ow_in m x1) : og_is (ow_o x1) (ow_g x1) := by
  unfold ow_o
  rcases ow_pal hR h with ⟨q1, q2⟩ | ⟨q1, q2, q3⟩
  · rw [if_pos q1, q2]; exact Or.inl ⟨rfl, rfl⟩
  · rw [if_neg (by unfold fr_in at q1; omega), q2]; exact Or.inr ⟨_, (fr_f hR q1).1, rfl, rfl⟩
theorem cw_colour (hr : is_R r) (hR : rb_R (rl_v r I) (I 84 1) (I 85) (I 86) (I 87)) (h1 : cw_in (I 84 1) (I 85) x1 x2 → Q (.inl (some (.int 0))) (mc_up I (r + (ow_o x1 + 1)) x2.toNatClampNeg (v &&& Int32.ofNat 16777215), J, rf_w r, sh_w N, n)) (h2 : ¬ cw_in (I 84 1) (I 85) x1 x2 → Q (.inl (some (.int 1))) (I, J, rf_w r, sh_w N, 0)) :
    mc_WP (mc_en 30 [.ref 10, .int x1, .int x2, .int v] (I, J, rf_w r, sh_w N, n)) Q := by
  unfold cw_in at h1 h2
  have h9 := hR.2.2.2.2.2.2.2.2.1
  have s1 : I (r + 1) 1 = rl_cnt (I 85 4) := by have := h9.2.1; rw [rl_v0 _ _ _ _ (by decide)] at this; exact this
  have s3 := cnt_b h9.1
  rw [show 9 * 0 + 4 = 4 from rfl] at s3
  refine bk_30_0 (mc_inl ?_)
  refine bk_2_0 (mc_inl ?_)
  refine cc_rown hr hR (fun c => ?_) (fun c => h2 (fun q => c q.1))
  refine bk_2_5 hr ⟨fun d => ?_, fun d => ?_⟩
  · have hf : fr_in (I 84 1) x1 := by
      rcases c with q | q
      · exact absurd (i3_m1e q) d
      · exact q
    obtain ⟨g1, g2, g3, g4⟩ := fr_f hR hf
    have hp := g3.2.2.2.2.2.2.2.2.2.2.1
    have p1 : I (r + 4 + 4 * x1.toNatClampNeg + 2) 1 = rl_cnt (I 85 (9 * (x1.toNatClampNeg + 1) + 4)) := by rw [fv_2 (I := I) g1]; exact hp.2.1
    have p3 := cnt_b hp.1
    have hg := ow_f hf.1
    have hoo : ow_o x1 = 4 + 4 * x1.toNatClampNeg + 2 := by unfold ow_o; rw [if_neg (by unfold fr_in at hf; omega)]
    rw [hg] at h1 h2
    rw [hoo] at h1
    rw [p1]
    refine ⟨g4, fun a => h2 ?_, fun a => ⟨fun b => h2 ?_, fun b => ⟨?_, ?_⟩⟩⟩
    · simp only [Int32.lt_iff_toInt_lt, Int32.le_iff_toInt_le, Int32.toInt_add, Int32.toInt_sub, Int32.toInt_mul, Int.bmod_def, i3_m1, i3_0, i3_1, i3_2, i3_3, i3_4, i3_5, i3_6, i3_7, i3_8, i3_9, i3_10, i3_15, i3_16, i3_19, i3_20, i3_24, i3_31, i3_33, i3_44, i3_45, i3_48, i3_49, i3_59, i3_63, i3_64, i3_80, i3_100, i3_192, i3_200000, i3_254, i3_255, i3_256, i3_800, i3_16777215, i3_16777216] at a; omega
    · simp only [Int32.lt_iff_toInt_lt, Int32.le_iff_toInt_le, Int32.toInt_add, Int32.toInt_sub, Int32.toInt_mul, Int.bmod_def, i3_m1, i3_0, i3_1, i3_2, i3_3, i3_4, i3_5, i3_6, i3_7, i3_8, i3_9, i3_10, i3_15, i3_16, i3_19, i3_20, i3_24, i3_31, i3_33, i3_44, i3_45, i3_48, i3_49, i3_59, i3_63, i3_64, i3_80, i3_100, i3_192, i3_200000, i3_254, i3_255, i3_256, i3_800, i3_16777215, i3_16777216] at a b; omega
    · rw [vp_iff]; simp only [Int32.lt_iff_toInt_lt, Int32.le_iff_toInt_le, Int32.toInt_add, Int32.toInt_sub, Int32.toInt_mul, Int.bmod_def, i3_m1, i3_0, i3_1, i3_2, i3_3, i3_4, i3_5, i3_6, i3_7, i3_8, i3_9, i3_10, i3_15, i3_16, i3_19, i3_20, i3_24, i3_31, i3_33, i3_44, i3_45, i3_48, i3_49, i3_59, i3_63, i3_64, i3_80, i3_100, i3_192, i3_200000, i3_254, i3_255, i3_256, i3_800, i3_16777215, i3_16777216] at a b; omega
    · refine bk_30_7 ?_
      rw [show r + 4 + 4 * x1.toNatClampNeg + 2 + 1 = r + (4 + 4 * x1.toNatClampNeg + 2 + 1) by omega]
      exact h1 ⟨c, by simp only [Int32.lt_iff_toInt_lt, Int32.le_iff_toInt_le, Int32.toInt_add, Int32.toInt_sub, Int32.toInt_mul, Int.bmod_def, i3_m1, i3_0, i3_1, i3_2, i3_3, i3_4, i3_5, i3_6, i3_7, i3_8, i3_9, i3_10, i3_15, i3_16, i3_19, i3_20, i3_24, i3_31, i3_33, i3_44, i3_45, i3_48, i3_49, i3_59, i3_63, i3_64, i3_80, i3_100, i3_192, i3_200000, i3_254, i3_255, i3_256, i3_800, i3_16777215, i3_16777216] at a b; omega⟩
  · have d' := i3_ne.mp (Classical.not_not.mp d)
    have hg : ow_g x1 = 0 := by unfold ow_g; rw [d']; rfl
    have hoo : ow_o x1 = 1 := by unfold ow_o; rw [if_pos d']
    rw [hg, show 9 * 0 + 4 = 4 from rfl] at h1 h2
    rw [hoo] at h1
    rw [s1]
    refine ⟨fun a => h2 ?_, fun a => ⟨fun b => h2 ?_, fun b => ⟨?_, ?_⟩⟩⟩
    · simp only [Int32.lt_iff_toInt_lt, Int32.le_iff_toInt_le, Int32.toInt_add, Int32.toInt_sub, Int32.toInt_mul, Int.bmod_def, i3_m1, i3_0, i3_1, i3_2, i3_3, i3_4, i3_5, i3_6, i3_7, i3_8, i3_9, i3_10, i3_15, i3_16, i3_19, i3_20, i3_24, i3_31, i3_33, i3_44, i3_45, i3_48, i3_49, i3_59, i3_63, i3_64, i3_80, i3_100, i3_192, i3_200000, i3_254, i3_255, i3_256, i3_800, i3_16777215, i3_16777216] at a; omega
    · simp only [Int32.lt_iff_toInt_lt, Int32.le_iff_toInt_le, Int32.toInt_add, Int32.toInt_sub, Int32.toInt_mul, Int.bmod_def, i3_m1, i3_0, i3_1, i3_2, i3_3, i3_4, i3_5, i3_6, i3_7, i3_8, i3_9, i3_10, i3_15, i3_16, i3_19, i3_20, i3_24, i3_31, i3_33, i3_44, i3_45, i3_48, i3_49, i3_59, i3_63, i3_64, i3_80, i3_100, i3_192, i3_200000, i3_254, i3_255, i3_256, i3_800, i3_16777215, i3_16777216] at a b; omega
    · rw [vp_iff]; simp only [Int32.lt_iff_toInt_lt, Int32.le_iff_toInt_le, Int32.toInt_add, Int32.toInt_sub, Int32.toInt_mul, Int.bmod_def, i3_m1, i3_0, i3_1, i3_2, i3_3, i3_4, i3_5, i3_6, i3_7, i3_8, i3_9, i3_10, i3_15, i3_16, i3_19, i3_20, i3_24, i3_31, i3_33, i3_44, i3_45, i3_48, i3_49, i3_59, i3_63, i3_64, i3_80, i3_100, i3_192, i3_200000, i3_254, i3_255, i3_256, i3_800, i3_16777215, i3_16777216] at a b; omega
    · exact bk_30_7 (h1 ⟨c, by simp only [Int32.lt_iff_toInt_lt, Int32.le_iff_toInt_le, Int32.toInt_add, Int32.toInt_sub, Int32.toInt_mul, Int.bmod_def, i3_m1, i3_0, i3_1, i3_2, i3_3, i3_4, i3_5, i3_6, i3_7, i3_8, i3_9, i3_10, i3_15, i3_16, i3_19, i3_20, i3_24, i3_31, i3_33, i3_44, i3_45, i3_48, i3_49, i3_59, i3_63, i3_64, i3_80, i3_100, i3_192, i3_200000, i3_254, i3_255, i3_256, i3_800, i3_16777215, i3_16777216] at a b; omega⟩)
theorem cm_colour {c : rl_M} (hR : rb_R c (I 84 1) (I 85) (I 86) (I 87)) (h1 : cw_in (I 84 1) (I 85) x1 x2 → Q (.inl none) (mc_up (mc_up I 84 0 0) 86 (16 * ow_g x1 + x2.toNatClampNeg) (v &&& Int32.ofNat 16777215), J, rf_w r, sh_w N, n)) (h2 : ¬ cw_in (I 84 1) (I 85) x1 x2 → Q (.inl none) (mc_up I 84 0 1, J, rf_w r, sh_w N, n)) :
    mc_WP (mc_en 64 [.ref 84, .int x1, .int x2, .int v] (I, J, rf_w r, sh_w N, n)) Q := by
  have hb := hR.1
  have key : ow_in (I 84 1) x1 → vp_in ((9 : Int32) * (x1 + 1) + 4) 45 ∧ (I 85 ((9 : Int32) * (x1 + 1) + 4).toNatClampNeg = 0 → Q (.inl none) (mc_up I 84 0 1, J, rf_w r, sh_w N, n)) ∧
      (¬ I 85 ((9 : Int32) * (x1 + 1) + 4).toNatClampNeg = 0 → (x2 < 0 → Q (.inl none) (mc_up I 84 0 1, J, rf_w r, sh_w N, n)) ∧
        (¬ x2 < 0 → (x2 ≤ (1 <<< (I 85 ((9 : Int32) * (x1 + 1) + 4).toNatClampNeg &&& 31)) - 1 → vp_in ((16 : Int32) * (x1 + 1) + x2) 80 ∧ Q (.inl none) (mc_up (mc_up I 84 0 0) 86 ((16 : Int32) * (x1 + 1) + x2).toNatClampNeg (v &&& Int32.ofNat 16777215), J, rf_w r, sh_w N, n)) ∧
          (¬ x2 ≤ (1 <<< (I 85 ((9 : Int32) * (x1 + 1) + 4).toNatClampNeg &&& 31)) - 1 → Q (.inl none) (mc_up I 84 0 1, J, rf_w r, sh_w N, n)))) := by
    intro ho
    have hh : -1 ≤ x1.toInt ∧ x1.toInt < 4 := by unfold ow_in fr_in at ho; omega
    have e := ix_9g (k := 4) hh (by decide)
    rw [show ((4 : Int32).toInt).toNat = 4 from rfl] at e
    have hp : 0 ≤ (I 85 (9 * ow_g x1 + 4)).toInt ∧ (I 85 (9 * ow_g x1 + 4)).toInt ≤ 4 := by
      rcases ow_pal hR ho with q | q
      · rw [q.2]; exact hR.2.2.2.2.2.2.2.2.1.1
      · rw [q.2.1]; exact q.2.2.1
    have hc := cnt_b hp
    unfold cw_in at h1 h2
    rw [e.1]
    refine ⟨e.2, fun a => h2 ?_, fun a => ⟨fun b => h2 ?_, fun b => ⟨fun d => ?_, fun d => h2 ?_⟩⟩⟩
    · rw [hc.2.2.1 a]; intro q; have := q.2; rw [show (0 : Int32).toInt = 0 from rfl] at this; omega
    · simp only [Int32.lt_iff_toInt_lt, Int32.le_iff_toInt_le, Int32.toInt_add, Int32.toInt_sub, Int32.toInt_mul, Int.bmod_def, i3_m1, i3_0, i3_1, i3_2, i3_3, i3_4, i3_5, i3_6, i3_7, i3_8, i3_9, i3_10, i3_15, i3_16, i3_19, i3_20, i3_24, i3_31, i3_33, i3_44, i3_45, i3_48, i3_49, i3_59, i3_63, i3_64, i3_80, i3_100, i3_192, i3_200000, i3_254, i3_255, i3_256, i3_800, i3_16777215, i3_16777216] at b; omega
    · rw [← (hc.2.2.2 a).1] at d
      have d2 : 0 ≤ x2.toInt ∧ x2.toInt < (rl_cnt (I 85 (9 * ow_g x1 + 4))).toInt := by simp only [Int32.lt_iff_toInt_lt, Int32.le_iff_toInt_le, Int32.toInt_add, Int32.toInt_sub, Int32.toInt_mul, Int.bmod_def, i3_m1, i3_0, i3_1, i3_2, i3_3, i3_4, i3_5, i3_6, i3_7, i3_8, i3_9, i3_10, i3_15, i3_16, i3_19, i3_20, i3_24, i3_31, i3_33, i3_44, i3_45, i3_48, i3_49, i3_59, i3_63, i3_64, i3_80, i3_100, i3_192, i3_200000, i3_254, i3_255, i3_256, i3_800, i3_16777215, i3_16777216] at b d; omega
      have e6 := ix_16g (k := x2) hh ⟨d2.1, by omega⟩
      rw [← i3_tn] at e6
      rw [e6.1]
      exact ⟨e6.2, h1 ⟨ho, d2⟩⟩
    · rw [← (hc.2.2.2 a).1] at d
      simp only [Int32.lt_iff_toInt_lt, Int32.le_iff_toInt_le, Int32.toInt_add, Int32.toInt_sub, Int32.toInt_mul, Int.bmod_def, i3_m1, i3_0, i3_1, i3_2, i3_3, i3_4, i3_5, i3_6, i3_7, i3_8, i3_9, i3_10, i3_15, i3_16, i3_19, i3_20, i3_24, i3_31, i3_33, i3_44, i3_45, i3_48, i3_49, i3_59, i3_63, i3_64, i3_80, i3_100, i3_192, i3_200000, i3_254, i3_255, i3_256, i3_800, i3_16777215, i3_16777216] at b d; omega
  refine bk_64_0 ⟨fun a => key (Or.inl (i3_ne.mp a)), fun a => ⟨fun b => h2 ?_, fun b => ⟨fun d => h2 ?_, fun d => key (Or.inr ?_)⟩⟩⟩
  all_goals rw [i3_ne] at a
  · unfold cw_in ow_in fr_in; simp only [Int32.lt_iff_toInt_lt, Int32.le_iff_toInt_le, Int32.toInt_add, Int32.toInt_sub, Int32.toInt_mul, Int.bmod_def, i3_m1, i3_0, i3_1, i3_2, i3_3, i3_4, i3_5, i3_6, i3_7, i3_8, i3_9, i3_10, i3_15, i3_16, i3_19, i3_20, i3_24, i3_31, i3_33, i3_44, i3_45, i3_48, i3_49, i3_59, i3_63, i3_64, i3_80, i3_100, i3_192, i3_200000, i3_254, i3_255, i3_256, i3_800, i3_16777215, i3_16777216] at b; omega
  · unfold cw_in ow_in fr_in; simp only [Int32.lt_iff_toInt_lt, Int32.le_iff_toInt_le, Int32.toInt_add, Int32.toInt_sub, Int32.toInt_mul, Int.bmod_def, i3_m1, i3_0, i3_1, i3_2, i3_3, i3_4, i3_5, i3_6, i3_7, i3_8, i3_9, i3_10, i3_15, i3_16, i3_19, i3_20, i3_24, i3_31, i3_33, i3_44, i3_45, i3_48, i3_49, i3_59, i3_63, i3_64, i3_80, i3_100, i3_192, i3_200000, i3_254, i3_255, i3_256, i3_800, i3_16777215, i3_16777216] at b d; omega
  · unfold fr_in; simp only [Int32.lt_iff_toInt_lt, Int32.le_iff_toInt_le, Int32.toInt_add, Int32.toInt_sub, Int32.toInt_mul, Int.bmod_def, i3_m1, i3_0, i3_1, i3_2, i3_3, i3_4, i3_5, i3_6, i3_7, i3_8, i3_9, i3_10, i3_15, i3_16, i3_19, i3_20, i3_24, i3_31, i3_33, i3_44, i3_45, i3_48, i3_49, i3_59, i3_63, i3_64, i3_80, i3_100, i3_192, i3_200000, i3_254, i3_255, i3_256, i3_800, i3_16777215, i3_16777216] at b d; omega
theorem rl_I.colour (h : rl_I r I) (hc : cw_in (I 84 1) (I 85) x1 x2) {w : Int32} (hw : 0 ≤ w.toInt ∧ w.toInt < 16777216) : rl_I r (mc_up (mc_up (mc_up I (r + (ow_o x1 + 1)) x2.toNatClampNeg w) 84 0 0) 86 (16 * ow_g x1 + x2.toNatClampNeg) w) := by
  obtain ⟨hr, hR, hB, hP, hC, hK⟩ := h
  have hog := ow_og hR hc.1
  have ho : ow_o x1 + 1 < 20 := by rcases hog with ⟨q, -⟩ | ⟨f, q0, q, -⟩ <;> omega
  have hb := is_Rb hr
  have hp : 0 ≤ (I 85 (9 * ow_g x1 + 4)).toInt ∧ (I 85 (9 * ow_g x1 + 4)).toInt ≤ 4 := by
    rcases ow_pal hR hc.1 with q | q
    · rw [q.2]; exact hR.2.2.2.2.2.2.2.2.1.1
    · rw [q.2.1]; exact q.2.2.1
  have h16 := (cnt_b hp).2.1
  have t := i3_tn x2
  have h2 := hc.2
  refine ⟨hr, ?_, ?_, ?_, ?_, ?_⟩
  · rw [up_v (by omega), up_v (by omega), up_vo ho, up_ne (show ¬ 84 = 86 by decide), up_nk (show ¬ 1 = 0 by decide), up_ne (show ¬ 84 = r + (ow_o x1 + 1) by omega), up_ne (show ¬ 85 = 86 by decide), up_ne (show ¬ 85 = 84 by decide), up_ne (show ¬ 85 = r + (ow_o x1 + 1) by omega), up_ne (show ¬ 87 = 86 by decide), up_ne (show ¬ 87 = 84 by decide), up_ne (show ¬ 87 = r + (ow_o x1 + 1) by omega), up_row, up_ne (show ¬ 86 = 84 by decide), up_ne (show ¬ 86 = r + (ow_o x1 + 1) by omega)]
    exact hR.colour hog (by omega) (by omega) hw
  · rw [up_ne (show ¬ 54 = 86 by decide), up_ne (show ¬ 54 = 84 by decide), up_ne (show ¬ 54 = r + (ow_o x1 + 1) by omega), up_ne (show ¬ 55 = 86 by decide), up_ne (show ¬ 55 = 84 by decide), up_ne (show ¬ 55 = r + (ow_o x1 + 1) by omega), up_ne (show ¬ 84 = 86 by decide), up_nk (show ¬ 10 = 0 by decide), up_ne (show ¬ 84 = r + (ow_o x1 + 1) by omega), up_ne (show ¬ 91 = 86 by decide), up_ne (show ¬ 91 = 84 by decide), up_ne (show ¬ 91 = r + (ow_o x1 + 1) by omega)]
    exact hB
  · rw [up_ne (show ¬ 75 = 86 by decide), up_ne (show ¬ 75 = 84 by decide), up_ne (show ¬ 75 = r + (ow_o x1 + 1) by omega), up_ne (show ¬ 92 = 86 by decide), up_ne (show ¬ 92 = 84 by decide), up_ne (show ¬ 92 = r + (ow_o x1 + 1) by omega)]
    exact hP
  · rw [up_ne (show ¬ 12 = 86 by decide), up_ne (show ¬ 12 = 84 by decide), up_ne (show ¬ 12 = r + (ow_o x1 + 1) by omega), up_ne (show ¬ 93 = 86 by decide), up_ne (show ¬ 93 = 84 by decide), up_ne (show ¬ 93 = r + (ow_o x1 + 1) by omega)]
    exact hC
  · refine rb_K.up (rb_K.up (rb_K.up hK (Or.inl ?_)) (Or.inl (by decide))) (Or.inl (by decide))
    intro hp
    simp only [is_P, List.mem_cons, List.not_mem_nil, or_false] at hp
    rcases hog with ⟨q, -⟩ | ⟨f, q0, q, -⟩ <;> omega
theorem lc_colour (hI : rl_I r I) (hN : N ≤ 3074) (hx : 0 ≤ x4.toInt ∧ x4.toInt + 6 ≤ N) (hu : u.1 + 3 ≤ 601024 ∧ u.2 + 18 ≤ 7293000) (hn : lw_nx N x4 u Q) : mc_WP (42, 224, [.ref 1, .ref 10, .ref 84, .ref 105, .int x4, x5, x6], [], (I, J, rf_w r, sh_w N, n), u) Q := by
  have hI' := hI
  obtain ⟨hr, hR, hB, hP, hC, hK⟩ := hI
  have hb := is_Rb hr
  refine bk_42_224 ⟨lw_i hN hx (by decide), lw_i hN hx (by decide), lw_i hN hx (by decide), by omega, by omega, mc_inl ?_⟩
  refine cw_colour hr hR (fun c => ?_) (fun c => ?_)
  · have ho : ow_o (I 1 (x4 + 1).toNatClampNeg) + 1 < 20 := by rcases ow_og hR c.1 with ⟨q, -⟩ | ⟨f, q0, q, -⟩ <;> omega
    refine bk_42_246 ⟨lw_i hN hx (by decide), lw_i hN hx (by decide), lw_i hN hx (by decide), by show u.1 + 2 + 0 ≤ _; omega, by show u.2 + 12 + 0 ≤ _; omega, mc_inl ?_⟩
    rw [up_ne (show ¬ 1 = r + (ow_o (I 1 (x4 + 1).toNatClampNeg) + 1) by omega)]
    refine cm_colour (c := rl_v r I) ?_ (fun _ => ?_) (fun q => absurd ?_ q)
    · rw [up_ne (show ¬ 84 = r + (ow_o (I 1 (x4 + 1).toNatClampNeg) + 1) by omega), up_ne (show ¬ 85 = r + (ow_o (I 1 (x4 + 1).toNatClampNeg) + 1) by omega), up_ne (show ¬ 86 = r + (ow_o (I 1 (x4 + 1).toNatClampNeg) + 1) by omega), up_ne (show ¬ 87 = r + (ow_o (I 1 (x4 + 1).toNatClampNeg) + 1) by omega)]
      exact hR
    · exact le_270 (hI'.colour c (i3_col _)) (by rw [up_ne (by decide), up_at]) hu (by constructor <;> show _ + _ ≤ _ <;> omega) hn
    · rw [up_ne (show ¬ 84 = r + (ow_o (I 1 (x4 + 1).toNatClampNeg) + 1) by omega), up_ne (show ¬ 85 = r + (ow_o (I 1 (x4 + 1).toNatClampNeg) + 1) by omega)]
      exact c
  · refine bk_42_246 ⟨lw_i hN hx (by decide), lw_i hN hx (by decide), lw_i hN hx (by decide), by show u.1 + 2 + 0 ≤ _; omega, by show u.2 + 12 + 0 ≤ _; omega, mc_inl ?_⟩
    refine cm_colour hR (fun q => absurd q c) (fun _ => ?_)
    exact le_270 hI'.thr up_at hu (by constructor <;> show _ + _ ≤ _ <;> omega) hn
end
