/-! the law: its start and its turns -/
section
variable {B : rl_M} {B' : Nat → Nat → Int64} {N : Nat} {Q : mc_Q}
theorem wh_wm (x : Int32) : wh_c x = wm_c x ∧ 1 ≤ (wm_c x).toInt ∧ (wm_c x).toInt ≤ 8 := by
  unfold wh_c wm_c
  by_cases h8 : x < 8
  · rw [if_pos h8]
    by_cases h1 : (1 : Int32) < x
    · rw [if_pos h1]
      simp only [Int32.lt_iff_toInt_lt, Int32.le_iff_toInt_le, Int32.toInt_add, Int32.toInt_sub, Int32.toInt_mul, Int.bmod_def, i3_m1, i3_0, i3_1, i3_2, i3_3, i3_4, i3_5, i3_6, i3_7, i3_8, i3_9, i3_10, i3_15, i3_16, i3_19, i3_20, i3_24, i3_31, i3_33, i3_44, i3_45, i3_48, i3_49, i3_59, i3_63, i3_64, i3_80, i3_100, i3_192, i3_200000, i3_254, i3_255, i3_256, i3_800, i3_16777215, i3_16777216] at h8 h1
      rw [if_pos (by simp only [Int32.lt_iff_toInt_lt, Int32.le_iff_toInt_le, Int32.toInt_add, Int32.toInt_sub, Int32.toInt_mul, Int.bmod_def, i3_m1, i3_0, i3_1, i3_2, i3_3, i3_4, i3_5, i3_6, i3_7, i3_8, i3_9, i3_10, i3_15, i3_16, i3_19, i3_20, i3_24, i3_31, i3_33, i3_44, i3_45, i3_48, i3_49, i3_59, i3_63, i3_64, i3_80, i3_100, i3_192, i3_200000, i3_254, i3_255, i3_256, i3_800, i3_16777215, i3_16777216]; omega), if_pos (by simp only [Int32.lt_iff_toInt_lt, Int32.le_iff_toInt_le, Int32.toInt_add, Int32.toInt_sub, Int32.toInt_mul, Int.bmod_def, i3_m1, i3_0, i3_1, i3_2, i3_3, i3_4, i3_5, i3_6, i3_7, i3_8, i3_9, i3_10, i3_15, i3_16, i3_19, i3_20, i3_24, i3_31, i3_33, i3_44, i3_45, i3_48, i3_49, i3_59, i3_63, i3_64, i3_80, i3_100, i3_192, i3_200000, i3_254, i3_255, i3_256, i3_800, i3_16777215, i3_16777216]; omega)]
      exact ⟨rfl, by omega, by omega⟩
    · rw [if_neg h1]
      by_cases h2 : (1 : Int32) ≤ x
      · rw [if_pos h2]
        have e : x = 1 := by rw [← Int32.toInt_inj]; simp only [Int32.lt_iff_toInt_lt, Int32.le_iff_toInt_le, Int32.toInt_add, Int32.toInt_sub, Int32.toInt_mul, Int.bmod_def, i3_m1, i3_0, i3_1, i3_2, i3_3, i3_4, i3_5, i3_6, i3_7, i3_8, i3_9, i3_10, i3_15, i3_16, i3_19, i3_20, i3_24, i3_31, i3_33, i3_44, i3_45, i3_48, i3_49, i3_59, i3_63, i3_64, i3_80, i3_100, i3_192, i3_200000, i3_254, i3_255, i3_256, i3_800, i3_16777215, i3_16777216] at h1 h2 ⊢; omega
        rw [e]; decide
      · rw [if_neg h2]; decide
  · rw [if_neg h8, if_pos (by decide)]
    simp only [Int32.lt_iff_toInt_lt, Int32.le_iff_toInt_le, Int32.toInt_add, Int32.toInt_sub, Int32.toInt_mul, Int.bmod_def, i3_m1, i3_0, i3_1, i3_2, i3_3, i3_4, i3_5, i3_6, i3_7, i3_8, i3_9, i3_10, i3_15, i3_16, i3_19, i3_20, i3_24, i3_31, i3_33, i3_44, i3_45, i3_48, i3_49, i3_59, i3_63, i3_64, i3_80, i3_100, i3_192, i3_200000, i3_254, i3_255, i3_256, i3_800, i3_16777215, i3_16777216] at h8
    rw [if_pos (by simp only [Int32.lt_iff_toInt_lt, Int32.le_iff_toInt_le, Int32.toInt_add, Int32.toInt_sub, Int32.toInt_mul, Int.bmod_def, i3_m1, i3_0, i3_1, i3_2, i3_3, i3_4, i3_5, i3_6, i3_7, i3_8, i3_9, i3_10, i3_15, i3_16, i3_19, i3_20, i3_24, i3_31, i3_33, i3_44, i3_45, i3_48, i3_49, i3_59, i3_63, i3_64, i3_80, i3_100, i3_192, i3_200000, i3_254, i3_255, i3_256, i3_800, i3_16777215, i3_16777216]; omega)]
    by_cases h9 : x ≤ 8
    · have e : x = 8 := by rw [← Int32.toInt_inj]; simp only [Int32.lt_iff_toInt_lt, Int32.le_iff_toInt_le, Int32.toInt_add, Int32.toInt_sub, Int32.toInt_mul, Int.bmod_def, i3_m1, i3_0, i3_1, i3_2, i3_3, i3_4, i3_5, i3_6, i3_7, i3_8, i3_9, i3_10, i3_15, i3_16, i3_19, i3_20, i3_24, i3_31, i3_33, i3_44, i3_45, i3_48, i3_49, i3_59, i3_63, i3_64, i3_80, i3_100, i3_192, i3_200000, i3_254, i3_255, i3_256, i3_800, i3_16777215, i3_16777216] at h9 ⊢; omega
      rw [e]; decide
    · rw [if_neg h9]; decide
/-- the ints at the law's first turn -/
def pi_3 (B : rl_M) (x1 x2 : Int32) : rl_M := mc_row (pi_2 (mk_I (pi_1 (mk_I B 10 84) x1 x2) 84 105) x1 x2) 105 (fun _ => 0)
theorem lw_start (hN : N ≤ 3074) (hq : ∀ J x1 x2, mc_WP (42, 43, [.ref 1, .ref 10, .ref 84, .ref 105, .int 2, .null, .null], [], (pi_3 B x1 x2, J, rf_w 14, sh_w N, 106), (96, 6963)) Q) : mc_WP (mc_en 42 [.ref 1] (mk_M B B' 10 N [] 10)) Q := by
  have b0 : ∀ n, mk_b [] n := fun n e he => by cases he
  refine bg_42_0 ⟨by decide, mc_inl ?_⟩
  rw [mk_new (by decide) (b0 _) (show sh_w N 10 = (1, 0) from rfl)]
  refine gg_cell hN rfl (k := 0) (by decide) rfl ?_
  refine bg_42_9 (mc_inl ?_)
  refine gg_cell hN rfl (k := 1) (by decide) rfl ?_
  refine bg_42_14 (mc_inl ?_)
  refine cp_0 ?_
  refine bg_42_17 ⟨by decide, mc_inl ?_⟩
  generalize e1 : cl_c (mk_I B 10 (10 + 1) 1) N 0 = x1
  generalize e2 : cl_c (mk_I B 10 (10 + 1) 1) N 1 = x2
  have hm : (mc_row (pi_1 (mk_I B 10 84) x1 x2) 84 (fun _ => 0), mc_row (mk_J B' 10 84) 84 (fun _ => 0), mc_row (mk_P pl_f) 84 (fun _ => 0), mc_row (mk_S N 84) 84 (1, 11), 84 + 1) = mk_M (pi_1 (mk_I B 10 84) x1 x2) (mk_J B' 10 84) 84 N (mm_l 0) 85 := by
    have := mk_new (B := pi_1 (mk_I B 10 84) x1 x2) (B' := mk_J B' 10 84) (lo := 84) (n := 84) (N := N) (l := pl_f) (Nat.le_refl _) mm_0 (show sh_w N 84 = (1, 11) from rfl)
    rw [mk_I0, mk_J0] at this
    exact this
  rw [hm]
  have r1 : ∀ n, mk_I (pi_1 (mk_I B 10 84) x1 x2) 84 n 1 = mk_I B 10 (10 + 1) 1 := by
    intro n
    unfold mk_I
    rw [if_neg (by omega), if_neg (by omega)]
    unfold pi_1
    rw [fl_ne (by decide), up_ne (by decide), fl_ne (by decide), up_ne (by decide), up_ne (by decide), up_ne (by decide)]
    show (if 10 ≤ 1 ∧ 1 < 84 then fun _ => 0 else B 1) = B 1
    rw [if_neg (by decide)]
  refine gg_cell hN rfl (k := 0) (by decide) rfl ?_
  refine bg_42_27 (mc_inl ?_)
  refine gg_cell hN rfl (k := 1) (by decide) rfl ?_
  refine bg_42_32 (mc_inl ?_)
  rw [r1, e1, e2]
  refine cm_19 ?_
  refine bg_42_35 (n := 105) ⟨by decide, ?_⟩
  rw [mk_Ps ((mm_b 20).up (by decide)), mm_P, mk_Ss (show sh_w N 105 = (4, 1) from rfl), mm_S]
  exact hq _ x1 x2
theorem pi_at (B : rl_M) (hst : ∀ a, 2 ≤ a → a ≤ 4 → B a = st_w a) (x1 x2 : Int32) : is_R 14 ∧ rl_I 14 (pi_3 B x1 x2) := by
  have hw1 := wh_wm x1
  have hw2 := wh_wm x2
  have z : ∀ a, 10 ≤ a → a < 84 → ∀ k, mk_I B 10 84 a k = 0 := fun a h1 h2 k => by unfold mk_I; rw [if_pos ⟨h1, h2⟩]
  have c1 : ∀ a, a < 84 → pi_3 B x1 x2 a = pi_1 (mk_I B 10 84) x1 x2 a := fun a h => by
    unfold pi_3 mc_row
    rw [if_neg (by omega)]
    unfold pi_2
    rw [fl_ne (by omega), up_ne (by omega), up_ne (by omega), up_ne (by omega)]
    unfold mk_I
    rw [if_neg (by omega)]
  have p1 : ∀ a, ¬ a = 12 → ¬ a = 14 → ¬ a = 15 → ¬ a = 16 → pi_1 (mk_I B 10 84) x1 x2 a = mk_I B 10 84 a := fun a h1 h2 h3 h4 => by
    unfold pi_1
    rw [fl_ne h1, up_ne h3, fl_ne h4, up_ne h2, up_ne h2, up_ne h2]
  have m1 : ∀ a, 84 ≤ a → a < 105 → ¬ a = 85 → ¬ a = 93 → ∀ k, pi_3 B x1 x2 a k = 0 := fun a h1 h2 h3 h4 k => by
    unfold pi_3 mc_row
    rw [if_neg (by omega)]
    unfold pi_2
    rw [fl_ne h4, up_ne h3, up_ne h3, up_ne h3]
    unfold mk_I
    rw [if_pos (by omega)]
  have m85 : ∀ k, pi_3 B x1 x2 85 k = if k = 4 then 1 else if k = 3 then wm_c x2 else if k = 2 then wm_c x1 else 0 := fun k => by
    unfold pi_3 mc_row
    rw [if_neg (by decide)]
    unfold pi_2
    rw [fl_ne (by decide)]
    by_cases h4 : k = 4
    · rw [h4, up_at, if_pos rfl]
    · rw [up_nk h4, if_neg h4]
      by_cases h3 : k = 3
      · rw [h3, up_at, if_pos rfl]
      · rw [up_nk h3, if_neg h3]
        by_cases h2 : k = 2
        · rw [h2, up_at, if_pos rfl]
        · rw [up_nk h2, if_neg h2]
          unfold mk_I
          rw [if_pos (by decide)]
  have m93 : ∀ k, k < 64 → pi_3 B x1 x2 93 k = -1 := fun k hk => by
    unfold pi_3 mc_row
    rw [if_neg (by decide)]
    unfold pi_2
    exact fl_in (by omega)
  have c12 : ∀ k, k < 64 → pi_3 B x1 x2 12 k = -1 := fun k hk => by
    rw [c1 12 (by decide)]
    unfold pi_1
    exact fl_in (by omega)
  have c15 : pi_3 B x1 x2 15 1 = 2 := by
    rw [c1 15 (by decide)]
    unfold pi_1
    rw [fl_ne (by decide), up_at]
  have c16 : ∀ k, k < 16 → pi_3 B x1 x2 16 k = 0 := fun k hk => by
    rw [c1 16 (by decide)]
    unfold pi_1
    rw [fl_ne (by decide), up_ne (by decide)]
    exact fl_in (by omega)
  have c14 : pi_3 B x1 x2 14 2 = wm_c x1 ∧ pi_3 B x1 x2 14 3 = wm_c x2 ∧ pi_3 B x1 x2 14 4 = 0 := by
    rw [c1 14 (by decide)]
    unfold pi_1
    rw [fl_ne (by decide), up_ne (by decide), fl_ne (by decide)]
    refine ⟨?_, ?_, ?_⟩
    · rw [up_nk (by decide), up_nk (by decide), up_at, hw1.1]
    · rw [up_nk (by decide), up_at, hw2.1]
    · rw [up_at]
  have h841 : pi_3 B x1 x2 84 1 = 0 := m1 84 (by decide) (by decide) (by decide) (by decide) 1
  have h8410 : pi_3 B x1 x2 84 10 = 0 := m1 84 (by decide) (by decide) (by decide) (by decide) 10
  have zc : ∀ a, 10 ≤ a → a < 84 → ¬ a = 12 → ¬ a = 14 → ¬ a = 15 → ¬ a = 16 → ∀ k, pi_3 B x1 x2 a k = 0 := fun a h1 h2 h3 h4 h5 h6 k => by rw [c1 a h2, p1 a h3 h4 h5 h6]; exact z a h1 h2 k
  have v : ∀ o k, o < 20 → rl_v 14 (pi_3 B x1 x2) o k = pi_3 B x1 x2 (14 + o) k := fun o k ho => rl_v0 _ _ _ _ ho
  refine ⟨by decide, by decide, ?_, ?_, ?_, ?_, ?_⟩
  · rw [h841]
    refine ⟨by decide, (v 0 4 (by decide)).trans c14.2.2, ?_, ?_, ?_, ?_, ?_, ?_, ⟨?_, ?_, fun k hk => ?_⟩, fun f hf => absurd hf (by show ¬ (f : Int) < 0; omega)⟩
    · rw [v 0 2 (by decide), m85]; exact c14.1
    · rw [v 0 3 (by decide), m85]; exact c14.2.1
    · rw [m85]; exact hw1.2
    · rw [m85]; exact hw2.2
    · rw [m85, m85, m85, m85, m85, m85]; exact ⟨rfl, rfl, rfl, rfl, rfl, rfl⟩
    · rw [m85, if_pos rfl]; decide
    · rw [m85, if_pos rfl]; decide
    · rw [v 1 1 (by decide), m85, if_pos rfl]; exact c15.trans (by decide)
    · rw [v 2 k (by decide), c16 k hk, m1 86 (by decide) (by decide) (by decide) (by decide)]
      exact ⟨rfl, by decide, fun _ => rfl⟩
  · rw [h8410, zc 54 (by decide) (by decide) (by decide) (by decide) (by decide) (by decide)]
    exact ⟨rfl, by decide, fun k hk => absurd hk (by show ¬ (k : Int) < 0; omega)⟩
  · intro k hk
    rw [zc 75 (by decide) (by decide) (by decide) (by decide) (by decide) (by decide), m1 92 (by decide) (by decide) (by decide) (by decide)]
    exact ⟨rfl, by decide, by decide⟩
  · intro k hk
    rw [c12 k hk, m93 k hk]
  · refine ⟨fun p hp => ?_, fun a h1 h2 => by rw [c1 a (by omega), p1 a (by omega) (by omega) (by omega) (by omega)]; unfold mk_I; rw [if_neg (by omega)]; exact hst a h1 h2, fun k _ => m1 88 (by decide) (by decide) (by decide) (by decide) k⟩
    by_cases e : p = 15
    · rw [e, c15]; decide
    · rw [zc p ?_ ?_ ?_ ?_ e ?_ 1]
      · decide
      all_goals (simp only [is_P, List.mem_cons, List.not_mem_nil, or_false] at hp; omega)
/-- a turn of the law at this place keeps the relation -/
def lw_cs (pc : Nat) : Prop := ∀ (I : rl_M) (J : Nat → Nat → Int64) (r N n : Nat) (Q : mc_Q) (x4 : Int32) (x5 x6 : Value) (u : mc_U), rl_I r I → N ≤ 3074 → (0 ≤ x4.toInt ∧ x4.toInt + 6 ≤ N) → (u.1 + 3 ≤ 601024 ∧ u.2 + 18 ≤ 7293000) → lw_nx N x4 u Q → mc_WP (42, pc, [.ref 1, .ref 10, .ref 84, .ref 105, .int x4, x5, x6], [], (I, J, rf_w r, sh_w N, n), u) Q
theorem lw_turns_open (h10 : lw_cs 790) (h15 : lw_cs 947) (h16 : lw_cs 991) (h19 : lw_cs 1175) (hN : N ≤ 3074) (hQ : ∀ t, Q (.inl (some (.int 1))) t) : ∀ (d : Nat) (I : rl_M) (J : Nat → Nat → Int64) (r n : Nat) (x4 : Int32) (x5 x6 : Value) (u : mc_U), rl_I r I → 2 ≤ x4.toInt → x4.toInt ≤ 3080 → (N : Int) ≤ x4.toInt + 6 * d + 5 → (u.1 : Int) ≤ 100 + x4.toInt → (u.2 : Int) ≤ 7000 + 3 * x4.toInt →
    mc_WP (42, 43, [.ref 1, .ref 10, .ref 84, .ref 105, .int x4, x5, x6], [], (I, J, rf_w r, sh_w N, n), u) Q := by
  intro d
  induction d with
  | zero =>
    intro I J r n x4 x5 x6 u hI h2 h3 hd hu1 hu2
    refine bk_42_43 ⟨fun _ => hQ _, fun c => absurd ?_ c⟩
    rw [Int32.lt_iff_toInt_lt, Int32.toInt_sub, on_t (by omega), i3_6, Int.bmod_def]
    omega
  | succ d ih =>
    intro I J r n x4 x5 x6 u hI h2 h3 hd hu1 hu2
    refine bk_42_43 ⟨fun _ => hQ _, fun c => ?_⟩
    have hx : 0 ≤ x4.toInt ∧ x4.toInt + 6 ≤ N := by
      rw [Int32.lt_iff_toInt_lt, Int32.toInt_sub, on_t (by omega), i3_6, Int.bmod_def] at c
      omega
    have hu : u.1 + 3 ≤ 601024 ∧ u.2 + 18 ≤ 7293000 := by omega
    have e6 : (x4 + 6).toInt = x4.toInt + 6 := by rw [Int32.toInt_add, i3_6, Int.bmod_def]; omega
    have hn : lw_nx N x4 u Q := fun r I J n w x5 x6 hI' w1 w2 => ih I J r n (x4 + 6) x5 x6 w hI' (by omega) (by omega) (by omega) (by omega) (by omega)
    refine ⟨by rw [vp_iff]; omega, fun _ => lc_palette hI hN hx hu hn, fun _ => ⟨fun _ => lc_colour hI hN hx hu hn, fun _ => ⟨fun _ => lc_frame hI hN hx hu hn, fun _ => ⟨fun _ => lc_pixel hI hN hx hu hn, fun _ => ⟨fun _ => lc_set hI hN hx hu hn, fun _ => ⟨fun _ => lc_cut hI hN hx hu hn, fun _ => ⟨fun _ => lc_frames hI hN hx hu hn, fun _ => ⟨fun _ => lc_get hI hN hx hu hn, fun _ => ⟨fun _ => lc_colourAt hI hN hx hu hn, fun _ => ⟨fun _ => lc_pixelAt hI hN hx hu hn, fun _ => ⟨fun _ => h10 _ _ _ _ _ _ _ _ _ _ hI hN hx hu hn, fun _ => ⟨fun _ => lc_feed hI hN hx hu hn, fun _ => ⟨fun _ => lc_wipe hI hN hx hu hn, fun _ => ⟨fun _ => lc_spoil hI hN hx hu hn, fun _ => ⟨fun _ => lc_byteAt hI hN hx hu hn, fun _ => ⟨fun _ => h15 _ _ _ _ _ _ _ _ _ _ hI hN hx hu hn, fun _ => ⟨fun _ => h16 _ _ _ _ _ _ _ _ _ _ hI hN hx hu hn, fun _ => ⟨fun _ => lc_shown hI hN hx hu hn, fun _ => ⟨fun _ => lc_paint hI hN hx hu hn, fun _ => ⟨fun _ => h19 _ _ _ _ _ _ _ _ _ _ hI hN hx hu hn, fun _ => hn r I J n u x5 x6 hI (by omega) (by omega)⟩⟩⟩⟩⟩⟩⟩⟩⟩⟩⟩⟩⟩⟩⟩⟩⟩⟩⟩⟩
/-- the law answers true, if writing, reading, drawing and reducing keep the relation -/
theorem lw_true_open (h10 : lw_cs 790) (h15 : lw_cs 947) (h16 : lw_cs 991) (h19 : lw_cs 1175) (hN : N ≤ 3074) (hst : ∀ a, 2 ≤ a → a ≤ 4 → B a = st_w a) (hQ : ∀ t, Q (.inl (some (.int 1))) t) : mc_WP (mc_en 42 [.ref 1] (mk_M B B' 10 N [] 10)) Q :=
  lw_start hN (fun J x1 x2 => lw_turns_open h10 h15 h16 h19 hN hQ 600 _ _ 14 106 2 _ _ _ (pi_at B hst x1 x2).2 (by decide) (by decide) (by rw [i3_2]; omega) (by rw [i3_2]; decide) (by rw [i3_2]; decide))
end
