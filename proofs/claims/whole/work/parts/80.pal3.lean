section
variable {I : rl_M} {J : Nat → Nat → Int64} {r N n : Nat} {Q : mc_Q} {v x1 x2 x3 y4 x4 : Int32} {x5 x6 x7 x8 : Value} {u : mc_U} {a b lo j k z f g o s : Nat}
theorem rz_is {w c : Int32} (hw : 0 ≤ w.toInt) (hc : 0 ≤ c.toInt) : (rz_s w c : Int) ≤ w.toInt ∧ (rz_s w c : Int) ≤ c.toInt ∧ ((rz_s w c : Int) = w.toInt ∨ (rz_s w c : Int) = c.toInt) := by
  unfold rz_s
  have t1 := i3_tn w
  have t2 := i3_tn c
  split <;> omega
theorem pc_row {p : Nat} (h : ¬ b = p) (h1 : ¬ b = p + 1) : pc_M I p x2 b = I b := by
  unfold pc_M
  rw [up_ne h, fl_ne h1]
theorem rl_I.palette (h : rl_I r I) (ho : ow_in (I 84 1) x1) (hp : pa_in (I 85) (I 87) (I 84 1) x1 x2) :
    rl_I r (mc_up (pm_c (mc_up (pc_M I (r + ow_o x1) x2) 84 0 0) (ow_g x1) (rz_s (rl_cnt x2) (I (r + ow_o x1) 1)) 16) 85 (9 * ow_g x1 + 4) x2) := by
  obtain ⟨hr, hR, hB, hP, hC, hK⟩ := h
  have hb := is_Rb hr
  have hog := ow_og hR ho
  have hPp := ow_P hr hR ho
  have hoo : ow_o x1 + 1 < 20 := by rcases hog with ⟨q, -⟩ | ⟨f, q0, q, -⟩ <;> omega
  have hpal : rb_pal (rl_v r I) (I 85) (I 86) (ow_o x1) (ow_g x1) := by
    unfold ow_o
    rcases ow_pal hR ho with ⟨q1, q2⟩ | ⟨q1, q2, q3⟩
    · rw [if_pos q1, q2]; exact hR.2.2.2.2.2.2.2.2.1
    · rw [if_neg (by unfold fr_in at q1; omega), q2]; exact q3
  have hcnt : I (r + ow_o x1) 1 = rl_cnt (I 85 (9 * ow_g x1 + 4)) := by have := hpal.2.1; rw [rl_v0 _ _ _ _ (by omega)] at this; exact this
  have c2 := cnt_b hp.1.2
  have ch := cnt_b hpal.1
  have hrz := rz_is (w := rl_cnt x2) (c := I (r + ow_o x1) 1) c2.1 (by rw [hcnt]; exact ch.1)
  rw [hcnt] at hrz
  obtain ⟨s, hs⟩ : ∃ s, rz_s (rl_cnt x2) (I (r + ow_o x1) 1) = s := ⟨_, rfl⟩
  have hs' := hs
  rw [hcnt] at hs'
  rw [hs'] at hrz
  rw [hs]
  have row1 : ∀ b, (b < 14 ∨ 54 ≤ b) → pc_M I (r + ow_o x1) x2 b = I b := fun b hb' => pc_row (by omega) (by omega)
  have row : ∀ b, ¬ b = 84 → ¬ b = 85 → ¬ b = 86 → mc_up (pm_c (mc_up (pc_M I (r + ow_o x1) x2) 84 0 0) (ow_g x1) s 16) 85 (9 * ow_g x1 + 4) x2 b = pc_M I (r + ow_o x1) x2 b := fun b q4 q5 q6 => by rw [up_ne q5, pm_ne q6, up_ne q4]
  have r84 : ∀ k, ¬ k = 0 → mc_up (pm_c (mc_up (pc_M I (r + ow_o x1) x2) 84 0 0) (ow_g x1) s 16) 85 (9 * ow_g x1 + 4) x2 84 k = I 84 k := fun k hk => by rw [up_ne (by decide), pm_ne (by decide), up_nk hk, row1 84 (by decide)]
  have hcv : ∀ q k, q < 20 → rl_v r (mc_up (pm_c (mc_up (pc_M I (r + ow_o x1) x2) 84 0 0) (ow_g x1) s 16) 85 (9 * ow_g x1 + 4) x2) q k = pc_M I (r + ow_o x1) x2 (r + q) k := fun q k hq => by rw [rl_v0 _ _ _ _ hq, row _ (by omega) (by omega) (by omega)]
  refine ⟨hr, ?_, ?_, ?_, ?_, ?_⟩
  · rw [r84 1 (by decide), row 87 (by decide) (by decide) (by decide), row1 87 (by decide)]
    have eh : ∀ k, mc_up (pm_c (mc_up (pc_M I (r + ow_o x1) x2) 84 0 0) (ow_g x1) s 16) 85 (9 * ow_g x1 + 4) x2 85 k = if k = 9 * ow_g x1 + 4 then x2 else I 85 k := fun k => by
      rw [up_row]
      show (if k = 9 * ow_g x1 + 4 then x2 else pm_c (mc_up (pc_M I (r + ow_o x1) x2) 84 0 0) (ow_g x1) s 16 85 k) = _
      rw [pm_ne (by decide), up_ne (by decide), row1 85 (by decide)]
    refine hR.palette (s := s) (x2 := x2) hog hp.1.2 (fun hg => ?_) eh hrz ?_ ?_ (fun k hk => ?_) (fun k => ?_) (fun f hf => ?_)
    · refine hp.1.1 ?_
      unfold ow_g at hg
      unfold ow_in fr_in at ho
      omega
    · intro q k h1 h2
      by_cases hq : q < 20
      · rw [hcv q k hq, rl_v0 _ _ _ _ hq]
        unfold pc_M
        by_cases e : q = ow_o x1
        · subst e
          rw [up_nk (fun w => h1 ⟨rfl, w⟩), fl_ne (by omega)]
        · rw [up_ne (by omega), fl_ne (by omega)]
      · unfold rl_v; rw [if_neg hq, if_neg hq]
    · rw [hcv _ _ (by omega)]; unfold pc_M; exact up_at
    · rw [hcv _ _ hoo]
      unfold pc_M
      rw [up_ne (by omega), hs, show r + (ow_o x1 + 1) = r + ow_o x1 + 1 by omega]
      by_cases q : k < s
      · rw [fl_out (by omega), if_pos q, rl_v0 _ _ _ _ hoo, show r + (ow_o x1 + 1) = r + ow_o x1 + 1 by omega]
      · rw [fl_in (by omega), if_neg q]
    · rw [up_ne (by decide)]
      unfold pm_c
      rw [up_ne (by decide), row1 86 (by decide)]
      by_cases q : 16 * ow_g x1 ≤ k ∧ k < 16 * ow_g x1 + 16 ∧ ¬ k < 16 * ow_g x1 + s
      · rw [if_pos ⟨rfl, q⟩, if_pos q]
      · rw [if_neg (fun w => q w.2), if_neg q]
    · have hsu := hp.2 f hf
      have e4 := eh 4
      have ef := eh (9 * (f + 1) + 4)
      rcases ow_pal hR ho with ⟨q1, q2⟩ | ⟨q1, q2, -⟩
      · rw [q2, if_pos rfl] at e4
        rw [q2, if_neg (by omega)] at ef
        unfold rb_n
        rw [q2] at *
        rw [e4, ef]
        by_cases z : I 85 (9 * (f + 1) + 4) = 0
        · right
          rw [if_pos z]
          have := hsu ⟨fun _ => z, fun w => absurd (by omega) w⟩
          have z2 : ¬ x2 = 0 := fun w => by have := hp.1.1 q1; rw [w] at this; exact absurd this (by decide)
          unfold su_n at this
          rw [if_neg z2] at this
          exact this
        · left
          rw [if_neg z, if_neg z]
      · unfold fr_in at q1
        have t1 := i3_tn x1
        rw [q2, if_neg (by omega)] at e4
        by_cases z : f = x1.toNatClampNeg
        · right
          rw [q2, if_pos (by omega)] at ef
          have := hsu ⟨fun w => by omega, fun _ => by omega⟩
          unfold su_n at this
          unfold rb_n
          rw [q2] at *
          rw [e4, ef]
          exact this
        · left
          rw [q2, if_neg (by omega)] at ef
          unfold rb_n
          rw [q2] at *
          rw [e4, ef]
  · rw [r84 10 (by decide), row 54 (by decide) (by decide) (by decide), row 55 (by decide) (by decide) (by decide), row 91 (by decide) (by decide) (by decide), row1 54 (by decide), row1 55 (by decide), row1 91 (by decide)]; exact hB
  · rw [row 75 (by decide) (by decide) (by decide), row 92 (by decide) (by decide) (by decide), row1 75 (by decide), row1 92 (by decide)]; exact hP
  · rw [row 12 (by decide) (by decide) (by decide), row 93 (by decide) (by decide) (by decide), row1 12 (by decide), row1 93 (by decide)]; exact hC
  · refine ⟨fun p hpp => ?_, fun a h1 h2 => by rw [row a (by omega) (by omega) (by omega), row1 a (by omega)]; exact hK.2.1 a h1 h2, fun k h1 => by rw [row 88 (by decide) (by decide) (by decide), row1 88 (by decide)]; exact hK.2.2 k h1⟩
    have hpn : p < 84 := by simp only [is_P, List.mem_cons, List.not_mem_nil, or_false] at hpp; omega
    rw [row p (by omega) (by omega) (by omega)]
    by_cases e : p = r + ow_o x1
    · rw [e]
      unfold pc_M
      rw [up_at]
      exact ⟨c2.1, c2.2.1⟩
    · by_cases e1 : p = r + ow_o x1 + 1
      · exfalso
        simp only [is_P, List.mem_cons, List.not_mem_nil, or_false] at hpp hPp
        omega
      · rw [pc_row e e1]
        exact hK.1 p hpp
theorem lc_palette (hI : rl_I r I) (hN : N ≤ 3074) (hx : 0 ≤ x4.toInt ∧ x4.toInt + 6 ≤ N) (hu : u.1 + 3 ≤ 601024 ∧ u.2 + 18 ≤ 7293000) (hn : lw_nx N x4 u Q) : mc_WP (42, 156, [.ref 1, .ref 10, .ref 84, .ref 105, .int x4, x5, x6], [], (I, J, rf_w r, sh_w N, n), u) Q := by
  have hI' := hI
  obtain ⟨hr, hR, hB, hP, hC, hK⟩ := hI
  have hb := is_Rb hr
  refine bk_42_156 ⟨lw_i hN hx (by decide), lw_i hN hx (by decide), by omega, by omega, mc_inl ?_⟩
  refine cw_palette hr hR hK (fun c c' => ?_) (fun c => ?_) (fun c c' => ?_)
  · have hog := ow_og hR c
    have hoo : ow_o (I 1 (x4 + 1).toNatClampNeg) + 1 < 20 := by rcases hog with ⟨q, -⟩ | ⟨f, q0, q, -⟩ <;> omega
    have row1 : ∀ b, (b < 14 ∨ 54 ≤ b) → pc_M I (r + ow_o (I 1 (x4 + 1).toNatClampNeg)) (I 1 (x4 + 2).toNatClampNeg) b = I b := fun b hb' => pc_row (by omega) (by omega)
    have hpal : rb_pal (rl_v r I) (I 85) (I 86) (ow_o (I 1 (x4 + 1).toNatClampNeg)) (ow_g (I 1 (x4 + 1).toNatClampNeg)) := by
      unfold ow_o
      rcases ow_pal hR c with ⟨q1, q2⟩ | ⟨q1, q2, q3⟩
      · rw [if_pos q1, q2]; exact hR.2.2.2.2.2.2.2.2.1
      · rw [if_neg (by unfold fr_in at q1; omega), q2]; exact q3
    have hcnt : I (r + ow_o (I 1 (x4 + 1).toNatClampNeg)) 1 = rl_cnt (I 85 (9 * ow_g (I 1 (x4 + 1).toNatClampNeg) + 4)) := by have := hpal.2.1; rw [rl_v0 _ _ _ _ (by omega)] at this; exact this
    have hrz := rz_is (w := rl_cnt (I 1 (x4 + 2).toNatClampNeg)) (c := I (r + ow_o (I 1 (x4 + 1).toNatClampNeg)) 1) (cnt_b c'.1.2).1 (by rw [hcnt]; exact (cnt_b hpal.1).1)
    refine bk_42_173 ⟨lw_i hN hx (by decide), lw_i hN hx (by decide), by show u.1 + 2 + 0 ≤ _; omega, by show u.2 + 12 + 0 ≤ _; omega, mc_inl ?_⟩
    rw [row1 1 (by decide)]
    refine cm_palette (c := rl_v r I) (s := rz_s (rl_cnt (I 1 (x4 + 2).toNatClampNeg)) (I (r + ow_o (I 1 (x4 + 1).toNatClampNeg)) 1)) ?_ (Or.inl ?_) (fun _ _ => ?_) (fun q => absurd ?_ q) (fun _ q => absurd ?_ q)
    · rw [row1 84 (by decide), row1 85 (by decide), row1 86 (by decide), row1 87 (by decide)]; exact hR
    · rw [row1 85 (by decide)]
      rw [hcnt] at hrz ⊢
      exact hrz
    · refine le_191 (hI'.palette c c') ?_ (fun _ => if_pos ⟨rfl, rfl⟩) hu (by constructor <;> show _ + _ ≤ _ <;> omega) hn
      rw [up_ne (by decide), pm_ne (by decide), up_at]
    · rw [row1 84 (by decide)]; exact c
    · rw [row1 84 (by decide), row1 85 (by decide), row1 87 (by decide)]; exact c'
  · refine bk_42_173 ⟨lw_i hN hx (by decide), lw_i hN hx (by decide), by show u.1 + 2 + 0 ≤ _; omega, by show u.2 + 12 + 0 ≤ _; omega, mc_inl ?_⟩
    refine cm_palette (s := 0) hR (Or.inr (fun q => c q.1)) (fun q => absurd q c) (fun _ => ?_) (fun q => absurd q c)
    exact le_191 hI'.thr up_at (fun q => absurd q (by decide)) hu (by constructor <;> show _ + _ ≤ _ <;> omega) hn
  · refine bk_42_173 ⟨lw_i hN hx (by decide), lw_i hN hx (by decide), by show u.1 + 2 + 0 ≤ _; omega, by show u.2 + 12 + 0 ≤ _; omega, mc_inl ?_⟩
    refine cm_palette (s := 0) hR (Or.inr (fun q => c' q.2)) (fun _ q => absurd q c') (fun q => absurd c q) (fun _ _ => ?_)
    exact le_191 hI'.thr up_at (fun q => absurd q (by decide)) hu (by constructor <;> show _ + _ ≤ _ <;> omega) hn
end
