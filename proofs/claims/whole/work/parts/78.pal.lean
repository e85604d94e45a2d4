section
variable {I : rl_M} {J : Nat → Nat → Int64} {r N n : Nat} {Q : mc_Q} {v x1 x2 x3 y4 x4 : Int32} {x5 x6 : Value} {u : mc_U} {a b lo j k z f g o s : Nat}
variable {c c' : rl_M} {hs hs' cs cs' ps : rl_A} {m : Int32}
theorem rb_F.newn (h : rb_F c hs cs ps f) (ec : ∀ k, k < 10 → c' (4 + 4 * f) k = c (4 + 4 * f) k) (eh : ∀ k, k < 9 → ¬ k = 4 → hs' (9 * (f + 1) + k) = hs (9 * (f + 1) + k)) (hn : pf_lt hs ps f (rb_n hs' f).toInt) (e1 : ∀ k, k < 64 → c' (4 + 4 * f + 1) k = c (4 + 4 * f + 1) k) (hp : rb_pal c' hs' cs' (4 + 4 * f + 2) (f + 1)) : rb_F c' hs' cs' ps f := by
  obtain ⟨a1, a2, a3, a4, a5, a6, a7, a8, a9, a10, a11, a12⟩ := h
  have w0 := eh 0 (by decide) (by decide)
  rw [Nat.add_zero] at w0
  have w1 := eh 1 (by decide) (by decide)
  have w2 := eh 2 (by decide) (by decide)
  have w3 := eh 3 (by decide) (by decide)
  have w5 := eh 5 (by decide) (by decide)
  have w6 := eh 6 (by decide) (by decide)
  have w7 := eh 7 (by decide) (by decide)
  have w8 := eh 8 (by decide) (by decide)
  refine ⟨fun k hk => by rw [ec _ (by omega), eh k (by omega) (by omega)]; exact a1 k hk, fun k hk => by rw [ec _ (by omega), Nat.add_assoc, eh _ (by omega) (by omega), ← Nat.add_assoc]; exact a2 k hk, by rw [w0]; exact a3, by rw [w1]; exact a4, by rw [w2]; exact a5, by rw [w3]; exact a6, by rw [w5]; exact a7, by rw [w6]; exact a8, by rw [w7]; exact ⟨a9.1, hn.1⟩, by rw [w8]; exact a10, hp, ?_⟩
  intro yy hy z hz
  have := a12 yy hy z hz
  rw [w2, w3, e1 _ (by omega)]
  exact ⟨fun q => ⟨(this.1 q).1, (this.1 q).2.1, hn.2 yy z q.2 q.1⟩, this.2⟩
/-- palette g comes to have x2 bits -/
theorem rb_R.palette (hR : rb_R c m hs cs ps) (hog : og_is o g) (h2 : 0 ≤ x2.toInt ∧ x2.toInt ≤ 4) (hg0 : g = 0 → 1 ≤ x2.toInt) (eh : ∀ k, hs' k = if k = 9 * g + 4 then x2 else hs k)
    (hs1 : (s : Int) ≤ (rl_cnt x2).toInt ∧ (s : Int) ≤ (rl_cnt (hs (9 * g + 4))).toInt ∧ ((s : Int) = (rl_cnt x2).toInt ∨ (s : Int) = (rl_cnt (hs (9 * g + 4))).toInt))
    (ec : ∀ q k, ¬ (q = o ∧ k = 1) → ¬ q = o + 1 → c' q k = c q k) (e1 : c' o 1 = rl_cnt x2) (e2 : ∀ k, k < 16 → c' (o + 1) k = if k < s then c (o + 1) k else 0)
    (es : ∀ k, cs' k = if 16 * g ≤ k ∧ k < 16 * g + 16 ∧ ¬ k < 16 * g + s then 0 else cs k)
    (hsu : ∀ f : Nat, (f : Int) < m.toInt → rb_n hs' f = rb_n hs f ∨ pf_lt hs ps f (rb_n hs' f).toInt) : rb_R c' m hs' cs' ps := by
  obtain ⟨g1, g2, g3, g4, g5, g6, g7, g8, g9, g10⟩ := hR
  have hgo : ∀ o' g', og_is o' g' → rb_pal c hs cs o' g' → rb_pal c' hs' cs' o' g' := by
    intro o' g' ho' hp
    by_cases e : g' = g
    · subst e
      have eo : o' = o := by
        rcases hog with ⟨q1, q2⟩ | ⟨f, q0, q1, q2⟩ <;> rcases ho' with ⟨p1, p2⟩ | ⟨f', p0, p1, p2⟩ <;> omega
      subst eo
      obtain ⟨b1, b2, b3⟩ := hp
      have hx : hs' (9 * g' + 4) = x2 := by rw [eh, if_pos rfl]
      refine ⟨by rw [hx]; exact h2, by rw [hx]; exact e1, fun k hk => ?_⟩
      rw [hx, e2 k hk, es]
      by_cases q : k < s
      · rw [if_pos q, if_neg (by omega)]
        exact ⟨(b3 k hk).1, (b3 k hk).2.1, fun w => by omega⟩
      · rw [if_neg q, if_pos (by omega)]
        exact ⟨rfl, by decide, fun _ => rfl⟩
    · have eo : ¬ o' = o ∧ ¬ o' = o + 1 ∧ ¬ o' + 1 = o := by
        rcases hog with ⟨q1, q2⟩ | ⟨f, q0, q1, q2⟩ <;> rcases ho' with ⟨p1, p2⟩ | ⟨f', p0, p1, p2⟩ <;> omega
      exact hp.congr (by rw [eh, if_neg (by omega)]) (ec _ _ (by omega) (by omega)) (fun k hk => ec _ _ (by omega) (by omega)) (fun k hk => by rw [es, if_neg (by omega)])
  have hk : ∀ k, k < 9 → ¬ k = 4 → hs' k = hs k := fun k h1 h2 => by rw [eh, if_neg (by omega)]
  have ho : o = 1 ∨ 6 ≤ o := by rcases hog with ⟨q1, q2⟩ | ⟨f, q0, q1, q2⟩ <;> omega
  have hom : ∀ f', ¬ 4 + 4 * f' = o ∧ ¬ 4 + 4 * f' = o + 1 ∧ ¬ 4 + 4 * f' + 1 = o ∧ ¬ 4 + 4 * f' + 1 = o + 1 := by
    intro f'
    rcases hog with ⟨q1, q2⟩ | ⟨f, q0, q1, q2⟩ <;> omega
  refine ⟨g1, by rw [ec _ _ (by omega) (by omega)]; exact g2, by rw [ec _ _ (by omega) (by omega), hk 2 (by decide) (by decide)]; exact g3, by rw [ec _ _ (by omega) (by omega), hk 3 (by decide) (by decide)]; exact g4, by rw [hk 2 (by decide) (by decide)]; exact g5, by rw [hk 3 (by decide) (by decide)]; exact g6,
    by rw [hk 0 (by decide) (by decide), hk 1 (by decide) (by decide), hk 5 (by decide) (by decide), hk 6 (by decide) (by decide), hk 7 (by decide) (by decide), hk 8 (by decide) (by decide)]; exact g7, ?_, hgo 1 0 (Or.inl ⟨rfl, rfl⟩) g9, fun f' hf' => ?_⟩
  · rw [eh]
    by_cases e : 4 = 9 * g + 4
    · rw [if_pos e]; exact hg0 (by omega)
    · rw [if_neg e]; exact g8
  · have hf := g10 f' hf'
    have hf4 : f' < 4 := by omega
    have hm := hom f'
    refine hf.newn (fun k hk => ec _ _ (by omega) (by omega)) (fun k h1 h2 => by rw [eh, if_neg (by omega)]) ?_ (fun k hk => ec _ _ (by omega) (by omega)) (hgo _ _ (Or.inr ⟨f', hf4, rfl, rfl⟩) hf.2.2.2.2.2.2.2.2.2.2.1)
    rcases hsu f' hf' with q | q
    · rw [q]
      obtain ⟨-, -, -, -, w, hh, -, -, a9, -, -, a12⟩ := hf
      exact ⟨a9.2, fun y x hy hx => ((a12 y (by omega) x (by omega)).1 ⟨hx, hy⟩).2.2⟩
    · exact q
/-- palette -/
def pa_in (hs ps : rl_A) (cnt x1 x2 : Int32) : Prop := ((x1.toInt = -1 → 1 ≤ x2.toInt) ∧ 0 ≤ x2.toInt ∧ x2.toInt ≤ 4) ∧ su_ok hs ps cnt x1 x2
/-- the class's memory behind it -/
def pc_M (I : rl_M) (p : Nat) (x2 : Int32) : rl_M := mc_up (mc_fl I (p + 1) (rz_s (rl_cnt x2) (I p 1)) (16 - rz_s (rl_cnt x2) (I p 1)) 0) p 1 (rl_cnt x2)
theorem ow_P (hr : is_R r) (hR : rb_R (rl_v r I) (I 84 1) (I 85) (I 86) (I 87)) (ho : ow_in (I 84 1) x1) : is_P (r + ow_o x1) := by
  unfold ow_o
  rcases ho with q | q
  · rw [if_pos q]; exact (wd_R (r := r) (N := 0) hr).2.2.2.2.1
  · rw [if_neg (by unfold fr_in at q; omega)]
    have := (wd_F (r := r) (N := 0) (is_Ff hr (fr_f hR q).1)).2.2.2.2.2
    rw [show r + (4 + 4 * x1.toNatClampNeg + 2) = r + 4 + 4 * x1.toNatClampNeg + 2 by omega]
    exact this
theorem cw_palette (hr : is_R r) (hR : rb_R (rl_v r I) (I 84 1) (I 85) (I 86) (I 87)) (hK : rb_K I) (h1 : ow_in (I 84 1) x1 → pa_in (I 85) (I 87) (I 84 1) x1 x2 → Q (.inl (some (.int 0))) (pc_M I (r + ow_o x1) x2, mc_up J 105 0 (rl_cnt x2).toInt64, rf_w r, sh_w N, n)) (h2 : ¬ ow_in (I 84 1) x1 → Q (.inl (some (.int 1))) (I, J, rf_w r, sh_w N, 0)) (h3 : ow_in (I 84 1) x1 → ¬ pa_in (I 85) (I 87) (I 84 1) x1 x2 → Q (.inl (some (.int 2))) (I, J, rf_w r, sh_w N, 0)) :
    mc_WP (mc_en 29 [.ref 10, .int x1, .int x2, .ref 105] (I, J, rf_w r, sh_w N, n)) Q := by
  refine bk_29_0 (a3z := 1) rfl (mc_inl ?_)
  refine bk_1_0 (mc_inl ?_)
  refine cc_rown hr hR (fun co => ?_) (fun co => h2 co)
  replace h1 := h1 co
  replace h3 := h3 co
  unfold pa_in at h1 h3
  have rest : ((x1.toInt = -1 → 1 ≤ x2.toInt) ∧ 0 ≤ x2.toInt ∧ x2.toInt ≤ 4) → mc_WP (1, 45, [.ref 10, .int x1, .int x2, .null], [.int (rl_cnt x2)], (I, J, rf_w r, sh_w N, n), (1, 6)) (mc_kr (fun v t => mc_WP (29, 8, [.ref 10, .int x1, .int x2, .ref 105, .null], v.toList ++ [.int 0, .ref 105], t, (2, 12)) Q) (fun k t => mc_out 29 (pg_hd 29 5 k) Q k t)) := by
    intro hb
    have c2 := cnt_b hb.2
    have ok : su_ok (I 85) (I 87) (I 84 1) x1 x2 → mc_WP (1, 87, [.ref 10, .int x1, .int x2, .int (rl_cnt x2)], [], (I, J, rf_w r, sh_w N, n), (1, 6)) (mc_kr (fun v t => mc_WP (29, 8, [.ref 10, .int x1, .int x2, .ref 105, .null], v.toList ++ [.int 0, .ref 105], t, (2, 12)) Q) (fun k t => mc_out 29 (pg_hd 29 5 k) Q k t)) := by
      intro hs
      have hP := ow_P hr hR co
      have fin : mc_WP (mc_en 156 [.ref (r + ow_o x1), .int (rl_cnt x2)] (I, J, rf_w r, sh_w N, n)) (mc_kr (fun v t => mc_WP (1, 96, [.ref 10, .int x1, .int x2, .int (rl_cnt x2)], v.toList ++ [], t, (1, 6)) (mc_kr (fun v t => mc_WP (29, 8, [.ref 10, .int x1, .int x2, .ref 105, .null], v.toList ++ [.int 0, .ref 105], t, (2, 12)) Q) (fun k t => mc_out 29 (pg_hd 29 5 k) Q k t))) (fun k t => mc_kr (fun v t => mc_WP (29, 8, [.ref 10, .int x1, .int x2, .ref 105, .null], v.toList ++ [.int 0, .ref 105], t, (2, 12)) Q) (fun k t => mc_out 29 (pg_hd 29 5 k) Q k t) (.inr k) t)) := by
        refine cc_resize hP ⟨c2.1, c2.2.1⟩ (hK.1 _ hP) ?_
        refine bk_1_96 ?_
        exact bk_29_8 (a3z := 1) (b0z := 1) rfl rfl (by decide) ⟨by unfold vp_in; decide, h1 ⟨hb, hs⟩⟩
      refine bk_1_87 hr ⟨fun d => ?_, fun d => mc_inl ?_⟩
      · have hf : fr_in (I 84 1) x1 := by
          rcases co with q | q
          · exact absurd (i3_m1e q) d
          · exact q
        refine ⟨(fr_f hR hf).2.2.2, mc_inl ?_⟩
        have e : r + ow_o x1 = r + 4 + 4 * x1.toNatClampNeg + 2 := by unfold ow_o; rw [if_neg (by unfold fr_in at hf; omega)]; omega
        rw [e] at fin
        exact fin
      · have d' := i3_ne.mp (Classical.not_not.mp d)
        have e : r + ow_o x1 = r + 1 := by unfold ow_o; rw [if_pos d']
        rw [e] at fin
        exact fin
    refine bk_1_45 hr ⟨fun d => mc_inl ?_, fun d => mc_inl ?_⟩
    · have hf : fr_in (I 84 1) x1 := by
        rcases co with q | q
        · exact absurd (i3_m1e q) d
        · exact q
      refine cc_own hr hR hf hb.2 (fun q => bk_1_74 ⟨fun _ => ok q, fun w => absurd (show ¬ (1 : Int32) = 0 by decide) w⟩) (fun q => bk_1_74 ⟨fun w => absurd rfl w, fun _ => bk_1_77 (h3 (fun w => q w.2))⟩)
    · have d' := i3_ne.mp (Classical.not_not.mp d)
      refine cc_shared hr hR d' ⟨hb.1 d', hb.2.2⟩ (fun q => bk_1_59 ⟨fun w => absurd w (by decide), fun _ => ok q⟩) (fun q => bk_1_59 ⟨fun _ => bk_1_77 (h3 (fun w => q w.2)), fun w => absurd rfl w⟩)
  have st : ∀ y : Int32, ((x1.toInt = -1 → y.toInt = 1) ∧ (¬ x1.toInt = -1 → y.toInt = 0)) → mc_WP (1, 16, [.ref 10, .int x1, .int x2, .null], [.int y, .int x2], (I, J, rf_w r, sh_w N, n), (1, 6)) (mc_kr (fun v t => mc_WP (29, 8, [.ref 10, .int x1, .int x2, .ref 105, .null], v.toList ++ [.int 0, .ref 105], t, (2, 12)) Q) (fun k t => mc_out 29 (pg_hd 29 5 k) Q k t)) := by
    intro y hy
    refine bk_1_16 ⟨fun a => bk_1_24 (h3 (fun w => ?_)), fun a => ⟨fun b => ⟨fun d => ?_, fun d => ?_⟩, fun b => bk_1_24 (h3 (fun w => ?_))⟩⟩
    · have := w.1
      rw [Int32.lt_iff_toInt_lt] at a
      by_cases q : x1.toInt = -1
      · have := hy.1 q; have := w.1.1 q; omega
      · have := hy.2 q; omega
    · have hb : (x1.toInt = -1 → 1 ≤ x2.toInt) ∧ 0 ≤ x2.toInt ∧ x2.toInt ≤ 4 := by
        simp only [Int32.lt_iff_toInt_lt, Int32.le_iff_toInt_le, Int32.toInt_add, Int32.toInt_sub, Int32.toInt_mul, Int.bmod_def, i3_m1, i3_0, i3_1, i3_2, i3_3, i3_4, i3_5, i3_6, i3_7, i3_8, i3_9, i3_10, i3_15, i3_16, i3_19, i3_20, i3_24, i3_31, i3_33, i3_44, i3_45, i3_48, i3_49, i3_59, i3_63, i3_64, i3_80, i3_100, i3_192, i3_200000, i3_254, i3_255, i3_256, i3_800, i3_16777215, i3_16777216] at a b
        by_cases q : x1.toInt = -1
        · have := hy.1 q; omega
        · have := hy.2 q; omega
      have := rest hb
      rw [((cnt_b hb.2).2.2.2 d).1] at this
      exact this
    · have hb : (x1.toInt = -1 → 1 ≤ x2.toInt) ∧ 0 ≤ x2.toInt ∧ x2.toInt ≤ 4 := by
        simp only [Int32.lt_iff_toInt_lt, Int32.le_iff_toInt_le, Int32.toInt_add, Int32.toInt_sub, Int32.toInt_mul, Int.bmod_def, i3_m1, i3_0, i3_1, i3_2, i3_3, i3_4, i3_5, i3_6, i3_7, i3_8, i3_9, i3_10, i3_15, i3_16, i3_19, i3_20, i3_24, i3_31, i3_33, i3_44, i3_45, i3_48, i3_49, i3_59, i3_63, i3_64, i3_80, i3_100, i3_192, i3_200000, i3_254, i3_255, i3_256, i3_800, i3_16777215, i3_16777216] at a b
        by_cases q : x1.toInt = -1
        · have := hy.1 q; omega
        · have := hy.2 q; omega
      have := rest hb
      rw [(cnt_b hb.2).2.2.1 (Classical.not_not.mp d)] at this
      exact this
    · have := w.1.2
      simp only [Int32.lt_iff_toInt_lt, Int32.le_iff_toInt_le, Int32.toInt_add, Int32.toInt_sub, Int32.toInt_mul, Int.bmod_def, i3_m1, i3_0, i3_1, i3_2, i3_3, i3_4, i3_5, i3_6, i3_7, i3_8, i3_9, i3_10, i3_15, i3_16, i3_19, i3_20, i3_24, i3_31, i3_33, i3_44, i3_45, i3_48, i3_49, i3_59, i3_63, i3_64, i3_80, i3_100, i3_192, i3_200000, i3_254, i3_255, i3_256, i3_800, i3_16777215, i3_16777216] at b
      omega
  refine bk_1_5 ⟨fun d => st 0 ⟨fun q => absurd (i3_m1e q) d, fun _ => rfl⟩, fun d => st 1 ⟨fun _ => rfl, fun q => absurd (i3_ne.mp (Classical.not_not.mp d)) q⟩⟩
end
