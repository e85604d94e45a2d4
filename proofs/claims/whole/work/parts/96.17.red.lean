section
variable {I M M' M0 : rl_M} {J : Nat → Nat → Int64} {r N n : Nat} {Q : mc_Q} {mn : Nat → Int32} {pc : rl_A} {c v mode a : Int32} {nb k b x y W H f a1 : Nat} {E O : rl_A}
def xs_v (W y k : Nat) : Nat := if y % 2 = 0 then k else W - 1 - k
def as_v (y : Nat) : Int32 := if y % 2 = 0 then 1 else -1
theorem as_1 (y : Nat) : (as_v y).toInt = 1 ∨ (as_v y).toInt = -1 := by
  unfold as_v
  split
  · exact Or.inl rfl
  · exact Or.inr rfl
theorem xs_lt (h : k < W) : xs_v W y k < W := by
  unfold xs_v
  split <;> omega
def rw_x (mn : Nat → Int32) (nb : Nat) (mode : Int32) (pc : rl_A) (W H y : Nat) : Nat → rl_A × rl_A → rl_A × rl_A
  | 0, s => s
  | k + 1, s => (nu_E mn nb mode (rw_x mn nb mode pc W H y k s).1 (pc (8 * y + xs_v W y k)) (xs_v W y k) y (as_v y).toInt W H, fun j => if j = 8 * y + xs_v W y k then nu_b mn nb mode (rw_x mn nb mode pc W H y k s).1 (pc (8 * y + xs_v W y k)) (xs_v W y k) y else (rw_x mn nb mode pc W H y k s).2 j)
def rw_y (mn : Nat → Int32) (nb : Nat) (mode : Int32) (pc : rl_A) (W H : Nat) : Nat → rl_A × rl_A
  | 0 => (fun _ => 0, fun _ => 0)
  | y + 1 => rw_x mn nb mode pc W H y W (rw_y mn nb mode pc W H y)
/-- what holds of the rows: numbers of boxes, none outside, no error where none goes on -/
def rw_ok (nb : Nat) (mode : Int32) (W H : Nat) (s : rl_A × rl_A) : Prop := (∀ j, ∃ i, i < nb ∧ s.2 j = Int32.ofNat i) ∧ (∀ X Y, X < 8 → Y < 8 → ¬ (X < W ∧ Y < H) → s.2 (8 * Y + X) = 0) ∧ (¬ mode = 2 → ∀ k, s.1 k = 0)
theorem rw_xok {s : rl_A × rl_A} (h16 : 1 ≤ nb ∧ nb ≤ 16) (h8 : W ≤ 8 ∧ H ≤ 8) (hy : y < H) (hs : rw_ok nb mode W H s) : ∀ k, k ≤ W → rw_ok nb mode W H (rw_x mn nb mode pc W H y k s)
  | 0, _ => hs
  | k + 1, hk => by
    obtain ⟨h1, h2, h3⟩ := rw_xok h16 h8 hy hs k (by omega)
    have hx := xs_lt (y := y) (show k < W by omega)
    refine ⟨fun j => ?_, fun X Y hX hY ho => ?_, fun hm j => ?_⟩
    · show ∃ i, i < nb ∧ (if j = _ then _ else _) = Int32.ofNat i
      split
      · exact nu_bb h16
      · exact h1 j
    · show (if 8 * Y + X = 8 * y + xs_v W y k then _ else _) = (0 : Int32)
      rw [if_neg (by omega)]
      exact h2 X Y hX hY ho
    · show nu_E _ _ _ _ _ _ _ _ _ _ j = 0
      unfold nu_E
      rw [if_neg (fun z => hm z.2)]
      exact h3 hm j
theorem rw_yok (h16 : 1 ≤ nb ∧ nb ≤ 16) (h8 : W ≤ 8 ∧ H ≤ 8) : ∀ y, y ≤ H → rw_ok nb mode W H (rw_y mn nb mode pc W H y)
  | 0, _ => ⟨fun j => ⟨0, by omega, rfl⟩, fun _ _ _ _ _ => rfl, fun _ _ => rfl⟩
  | y + 1, hy => rw_xok h16 h8 (by omega) (rw_yok h16 h8 y (by omega)) W (Nat.le_refl _)
/-- the class's memory at a turn -/
def cs_P (M0 : rl_M) (a1 : Nat) (s : rl_A × rl_A) (M : rl_M) : Prop := (∀ b, ¬ b = 82 → ¬ b = 83 → ¬ b = a1 + 1 → M b = M0 b) ∧ (∀ k, k < 192 → M 82 k = s.1 k) ∧ ∀ j, j < 64 → M (a1 + 1) j = s.2 j
def cs_H (M0 : rl_M) (a1 nb : Nat) (mode : Int32) (pc : rl_A) (W H : Nat) : Prop := is_F a1 ∧ (W ≤ 8 ∧ H ≤ 8) ∧ (1 ≤ nb ∧ nb ≤ 16) ∧ M0 a1 4 = Int32.ofNat W ∧ M0 a1 5 = Int32.ofNat H ∧ M0 76 9 = Int32.ofNat nb ∧ M0 76 10 = mode ∧ M0 4 = st_w 4 ∧ ∀ k, k < 64 → M0 75 k = pc k
theorem cs_ne (h : is_F a1) : ¬ a1 = 82 ∧ ¬ a1 = 83 ∧ (10 ≤ a1 ∧ a1 < 52) := by
  simp only [is_F, List.mem_cons, List.not_mem_nil, or_false] at h
  omega
theorem cc_row (hh : cs_H M0 a1 nb mode pc W H) (hy : y < H) {s : rl_A × rl_A} (hs : cs_P M0 a1 s M)
    (hk : ∀ M', cs_P M0 a1 (rw_x (M0 81) nb mode pc W H y W s) M' → Q (.inl none) (M', J, rf_w r, sh_w N, n)) :
    mc_WP (mc_en 182 [.ref 76, .ref a1, .int (Int32.ofNat y)] (M, J, rf_w r, sh_w N, n)) Q := by
  obtain ⟨hF, h8, h16, hW, hH, hn, hm, hK, hpc⟩ := hh
  obtain ⟨n1, n2, n3⟩ := cs_ne hF
  have main : ∀ fl : Int32, (fl = 0 ↔ ¬ y % 2 = 0) → mc_WP (182, 26, [.ref 76, .ref a1, .int (Int32.ofNat y), .int fl, .int (as_v y), .int 0, .null, .null], [], (M, J, rf_w r, sh_w N, n), (0, 0)) Q := by
    intro fl hfl
    refine lp_go (C := fun k (i : rl_M × Value × Value) => (182, 26, [.ref 76, .ref a1, .int (Int32.ofNat y), .int fl, .int (as_v y), .int (Int32.ofNat k), i.2.1, i.2.2], [], (i.1, J, rf_w r, sh_w N, n), (0, 0))) (P := fun k i => cs_P M0 a1 (rw_x (M0 81) nb mode pc W H y k s) i.1) W (M, .null, .null) hs ?_ ?_
    · intro k hk' ⟨M1, z6, z7⟩ hP next
      dsimp only at hP next ⊢
      obtain ⟨p1, p2, p3⟩ := hP
      have g : ∀ b, ¬ b = 82 → ¬ b = 83 → ¬ b = a1 + 1 → M1 b = M0 b := p1
      have gW : M1 a1 4 = Int32.ofNat W := by rw [g a1 n1 n2 (by omega)]; exact hW
      have gH : M1 a1 5 = Int32.ofNat H := by rw [g a1 n1 n2 (by omega)]; exact hH
      have g75 : M1 75 = M0 75 := g 75 (by decide) (by decide) (by omega)
      have g76 : M1 76 = M0 76 := g 76 (by decide) (by decide) (by omega)
      have g81 : M1 81 = M0 81 := g 81 (by decide) (by decide) (by omega)
      have hx := xs_lt (y := y) hk'
      generalize hxe : xs_v W y k = x at hx
      generalize hce : pc (8 * y + x) = c
      have hc : M1 75 (8 * y + x) = c := by rw [g75, hpc _ (by omega)]; exact hce
      have st : ∀ b : Int32, b = nu_b (M0 81) nb mode (rw_x (M0 81) nb mode pc W H y k s).1 c x y → ∀ M2 : rl_M, (∀ e, ¬ e = 82 → ¬ e = 83 → M2 e = M1 e) → (∀ j, j < 192 → M2 82 j = nu_E (M0 81) nb mode (rw_x (M0 81) nb mode pc W H y k s).1 c x y (as_v y).toInt W H j) → mc_WP (182, 108, [.ref 76, .ref a1, .int (Int32.ofNat y), .int fl, .int (as_v y), .int (Int32.ofNat k), .int (Int32.ofNat x), .int b], [], (M2, J, rf_w r, sh_w N, n), (0, 0)) Q := by
        intro b hb M2 r2 e2
        refine bk_182_108 hF ?_
        rw [on_8, on_n (by omega), on_1]
        refine ⟨on_vp (by omega) (by omega), next (_, _, _) ⟨fun e q1 q2 q3 => ?_, fun j hj => ?_, fun j hj => ?_⟩⟩
        · show mc_up M2 (a1 + 1) (8 * y + x) b e = _
          rw [up_ne q3, r2 e q1 q2]
          exact g e q1 q2 q3
        · show mc_up M2 (a1 + 1) (8 * y + x) b 82 j = nu_E _ _ _ _ _ _ _ _ _ _ j
          rw [up_ne (by omega), e2 j hj, hxe, hce]
        · show mc_up M2 (a1 + 1) (8 * y + x) b (a1 + 1) j = (if j = 8 * y + xs_v W y k then _ else _)
          rw [up_row]
          dsimp only
          rw [hxe, hce]
          by_cases q : j = 8 * y + x
          · rw [if_pos q, if_pos q, hb]
          · rw [if_neg q, if_neg q, r2 (a1 + 1) (by omega) (by omega)]
            exact p3 j hj
      have pix : ∀ z, mc_WP (mc_en 183 [.ref 76, .int c] (M1, J, rf_w r, sh_w N, n)) (mc_kr (fun v t => mc_WP (182, 70, [.ref 76, .ref a1, .int (Int32.ofNat y), .int fl, .int (as_v y), .int (Int32.ofNat k), .int (Int32.ofNat x), z], v.toList ++ [], t, (0, 0)) Q) (fun k t => Q (.inr k) t)) := by
        intro z
        refine cc_exact (by rw [g76]; exact hn) h16.2 (bk_182_70 hF ?_)
        rw [g81]
        refine ⟨fun q => st _ ?_ M1 (fun _ _ _ => rfl) fun j hj => ?_, fun q => mc_inl ?_⟩
        · unfold nu_b; rw [if_neg q]
        · unfold nu_E; rw [if_neg (fun z => q z.1)]; exact p2 j hj
        · have q1 := Classical.not_not.mp q
          refine cc_wish (mode := mode) (E := (rw_x (M0 81) nb mode pc W H y k s).1) (by omega) (by omega) hc (by rw [g76]; exact hm) (by rw [g 4 (by decide) (by decide) (by omega)]; exact hK) p2 fun M2 r2 w2 => bk_182_85 hF (mc_inl ?_)
          refine cc_near (by rw [r2 76 (by decide), g76]; exact hn) h16 (w2 0 (by decide)) (w2 1 (by decide)) (w2 2 (by decide)) ?_
          rw [r2 81 (by decide), g81]
          have hnl := nr_lt (w0 := wi_v mode (rw_x (M0 81) nb mode pc W H y k s).1 c x y 0) (w1 := wi_v mode (rw_x (M0 81) nb mode pc W H y k s).1 c x y 1) (w2 := wi_v mode (rw_x (M0 81) nb mode pc W H y k s).1 c x y 2) (mn := M0 81) (nb := nb) h16.1
          refine bk_182_89 hF ⟨on_vp (by omega) (by omega), mc_inl ?_⟩
          rw [on_n (by omega), r2 81 (by decide), g81]
          refine cc_hand (mode := mode) (E := (rw_x (M0 81) nb mode pc W H y k s).1) hF (by rw [r2 a1 n2]; exact gW) (by rw [r2 a1 n2]; exact gH) h8 (by omega) (by omega) (as_1 y) (by rw [r2 76 (by decide), g76]; exact hm) (fun j hj => by rw [r2 82 (by decide)]; exact p2 j hj) fun M3 r3 e3 => st _ ?_ M3 (fun e q3 q4 => (r3 e q3).trans (r2 e q4)) fun j hj => ?_
          · unfold nu_b nu_w; rw [if_pos q1]
          · rw [e3 j hj]
            unfold nu_E
            by_cases q5 : mode = 2
            · rw [if_pos q5, if_pos ⟨q1, q5⟩]
              unfold er_v ae_v
              have w83 : M2 83 (j % 3) = wi_v mode (rw_x (M0 81) nb mode pc W H y k s).1 c x y (j % 3) := w2 _ (by omega)
              simp only [w83]
              rfl
            · rw [if_neg q5, if_neg (fun z => q5 z.2)]
      refine bk_182_26 hF ?_
      rw [gW]
      refine ⟨fun q => absurd ((on_le (by omega) (by omega)).mp q) (by omega), fun _ => ⟨fun q => ?_, fun q => ?_⟩⟩
      · have hodd := hfl.mp q
        have ex : Int32.ofNat W - 1 - Int32.ofNat k = Int32.ofNat x := by
          rw [show (1 : Int32) = Int32.ofNat 1 from rfl, on_sub (by omega), on_sub (by omega), ← hxe]
          unfold xs_v
          rw [if_neg hodd]
        rw [ex, on_8, on_n (by omega), hc]
        exact ⟨on_vp (by omega) (by omega), mc_inl (pix _)⟩
      · have hev : y % 2 = 0 := Classical.not_not.mp fun z => q (hfl.mpr z)
        have ex : k = x := by
          rw [← hxe]
          unfold xs_v
          rw [if_pos hev]
        have hc' : M1 75 (8 * y + k) = c := by rw [ex]; exact hc
        rw [on_8, on_n (by omega), hc']
        refine ⟨on_vp (by omega) (by omega), mc_inl ?_⟩
        have := pix z7
        rw [← ex] at this
        exact this
    · intro ⟨M1, z6, z7⟩ hP
      dsimp only at hP ⊢
      have gW : M1 a1 4 = Int32.ofNat W := by rw [hP.1 a1 n1 n2 (by omega)]; exact hW
      refine bk_182_26 hF ?_
      rw [gW]
      exact ⟨fun _ => hk M1 hP, fun q => absurd ((on_le (by omega) (by omega)).mpr (Nat.le_refl _)) q⟩
  refine bk_182_0 hF ?_
  rw [and_1 (show y < 8 by omega)]
  refine ⟨fun q => ?_, fun q => ?_⟩
  · have h1 : ¬ y % 2 = 0 := fun z => q (by rw [z]; rfl)
    have := main 0 ⟨fun _ => h1, fun _ => rfl⟩
    unfold as_v at this
    rw [if_neg h1] at this
    exact this
  · have h1 : y % 2 = 0 := by
      have q1 := Classical.not_not.mp q
      rw [show (0 : Int32) = Int32.ofNat 0 from rfl, on_eq (by omega) (by omega)] at q1
      exact q1
    have := main 1 ⟨fun z => absurd z (by decide), fun z => absurd h1 z⟩
    unfold as_v at this
    rw [if_pos h1] at this
    exact this
end
