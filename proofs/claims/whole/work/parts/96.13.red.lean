/-! reduce: a pixel's number -/
section
variable {I M M' : rl_M} {J : Nat → Nat → Int64} {r N n : Nat} {Q : mc_Q} {mn : Nat → Int32} {c v w0 w1 w2 : Int32} {nb k b : Nat}
/-- the box with that very mean -/
def fs_v (mn : Nat → Int32) (c : Int32) : Nat → Nat → Int32
  | 0, _ => -1
  | f + 1, b => if mn b = c then Int32.ofNat b else fs_v mn c f (b + 1)
theorem fs_b (mn : Nat → Int32) (c : Int32) : ∀ f b, f + b ≤ 16 → fs_v mn c f b = -1 ∨ ∃ j, j < f + b ∧ fs_v mn c f b = Int32.ofNat j
  | 0, _, _ => Or.inl rfl
  | f + 1, b, h => by
    unfold fs_v
    split
    · exact Or.inr ⟨b, by omega, rfl⟩
    · rcases fs_b mn c f (b + 1) (by omega) with q | ⟨j, j1, j2⟩
      · exact Or.inl q
      · exact Or.inr ⟨j, by omega, j2⟩
theorem cc_exact (hn : M 76 9 = Int32.ofNat nb) (h16 : nb ≤ 16) (hk : Q (.inl (some (.int (fs_v (M 81) c nb 0)))) (M, J, rf_w r, sh_w N, n)) :
    mc_WP (mc_en 183 [.ref 76, .int c] (M, J, rf_w r, sh_w N, n)) Q := by
  refine bk_183_0 ?_
  have key : ∀ f b, f + b = nb → Q (.inl (some (.int (fs_v (M 81) c f b)))) (M, J, rf_w r, sh_w N, n) → mc_WP (183, 2, [.ref 76, .int c, .int (Int32.ofNat b)], [], (M, J, rf_w r, sh_w N, n), (0, 0)) Q := by
    intro f
    induction f with
    | zero =>
      intro b hb hq
      refine bk_183_2 ?_
      rw [hn]
      exact ⟨fun _ => hq, fun q => absurd ((on_le (by omega) (by omega)).mpr (by omega)) q⟩
    | succ f ih =>
      intro b hb hq
      unfold fs_v at hq
      refine bk_183_2 ?_
      rw [hn, on_n (by omega), on_1]
      refine ⟨fun q => absurd ((on_le (by omega) (by omega)).mp q) (by omega), fun _ => ⟨on_vp (by omega) (by omega), fun q => ih (b + 1) (by omega) ?_, fun q => ?_⟩⟩
      · rw [if_neg q] at hq; exact hq
      · rw [if_pos (Classical.not_not.mp q)] at hq; exact hq
  exact key nb 0 (by omega) hk
theorem cm_exact (hn : M 84 32 = Int32.ofNat nb) (h16 : nb ≤ 16) (hk : Q (.inl (some (.int (fs_v (M 103) c nb 0)))) (M, J, rf_w r, sh_w N, n)) :
    mc_WP (mc_en 119 [.ref 84, .int c] (M, J, rf_w r, sh_w N, n)) Q := by
  refine bk_119_0 ?_
  have key : ∀ f b, f + b = nb → Q (.inl (some (.int (fs_v (M 103) c f b)))) (M, J, rf_w r, sh_w N, n) → mc_WP (119, 2, [.ref 84, .int c, .int (Int32.ofNat b)], [], (M, J, rf_w r, sh_w N, n), (0, 0)) Q := by
    intro f
    induction f with
    | zero =>
      intro b hb hq
      refine bk_119_2 ?_
      rw [hn]
      exact ⟨fun _ => hq, fun q => absurd ((on_le (by omega) (by omega)).mpr (by omega)) q⟩
    | succ f ih =>
      intro b hb hq
      unfold fs_v at hq
      refine bk_119_2 ?_
      rw [hn, on_n (by omega), on_1]
      refine ⟨fun q => absurd ((on_le (by omega) (by omega)).mp q) (by omega), fun _ => ⟨on_vp (by omega) (by omega), fun q => ih (b + 1) (by omega) ?_, fun q => ?_⟩⟩
      · rw [if_neg q] at hq; exact hq
      · rw [if_pos (Classical.not_not.mp q)] at hq; exact hq
  exact key nb 0 (by omega) hk
theorem fs_eq {m1 m2 : Nat → Int32} : ∀ f b, (∀ j, j < f + b → m1 j = m2 j) → fs_v m1 c f b = fs_v m2 c f b
  | 0, _, _ => rfl
  | f + 1, b, h => by
    unfold fs_v
    rw [h b (by omega), fs_eq f (b + 1) (fun j hj => h j (by omega))]
/-- how far a colour lies from the wanted one -/
def ds_p (w c : Int32) (p : Nat) : Int32 := (w - pt_v c (Int32.ofNat p)) * (w - pt_v c (Int32.ofNat p))
def ds_v (w0 w1 w2 c : Int32) : Int32 := ds_p w0 c 0 + ds_p w1 c 1 + ds_p w2 c 2
def wt_b (w : Int32) : Prop := 0 ≤ w.toInt ∧ w.toInt ≤ 255
theorem ds_pb {w : Int32} (h : wt_b w) (p : Nat) : 0 ≤ (ds_p w c p).toInt ∧ (ds_p w c p).toInt ≤ 65025 := by
  have hp := pt_b c (Int32.ofNat p)
  unfold wt_b at h
  have e : (w - pt_v c (Int32.ofNat p)).toInt = w.toInt - (pt_v c (Int32.ofNat p)).toInt := by
    rw [Int32.toInt_sub, Int.bmod_def]
    omega
  unfold ds_p
  rw [Int32.toInt_mul, e]
  have ht : -255 ≤ w.toInt - (pt_v c (Int32.ofNat p)).toInt ∧ w.toInt - (pt_v c (Int32.ofNat p)).toInt ≤ 255 := by omega
  generalize w.toInt - (pt_v c (Int32.ofNat p)).toInt = t at *
  have h1 : 0 ≤ t * t := by
    rcases Int.le_total 0 t with q | q
    · exact Int.mul_nonneg q q
    · exact Int.mul_nonneg_of_nonpos_of_nonpos q q
  have h2 : t * t ≤ 255 * 255 := by
    rcases Int.le_total 0 t with q | q
    · exact Int.mul_le_mul (by omega) (by omega) q (by omega)
    · have : (-t) * (-t) ≤ 255 * 255 := Int.mul_le_mul (by omega) (by omega) (by omega) (by omega)
      rw [Int.neg_mul_neg] at this
      exact this
  rw [Int.bmod_def]
  omega
theorem ds_b (h0 : wt_b w0) (h1 : wt_b w1) (h2 : wt_b w2) : 0 ≤ (ds_v w0 w1 w2 c).toInt ∧ (ds_v w0 w1 w2 c).toInt ≤ 195075 := by
  have a0 := ds_pb (c := c) h0 0
  have a1 := ds_pb (c := c) h1 1
  have a2 := ds_pb (c := c) h2 2
  unfold ds_v
  rw [Int32.toInt_add, Int32.toInt_add, Int.bmod_def, Int.bmod_def]
  omega
theorem cc_dist (h0 : M 83 0 = w0) (h1 : M 83 1 = w1) (h2 : M 83 2 = w2) (hk : Q (.inl (some (.int (ds_v w0 w1 w2 c)))) (M, J, rf_w r, sh_w N, n)) :
    mc_WP (mc_en 186 [.ref 76, .int c] (M, J, rf_w r, sh_w N, n)) Q := by
  refine bk_186_0 ?_
  refine bk_186_4 ⟨fun q => absurd q (by decide), fun _ => ⟨by unfold vp_in; decide, ?_⟩⟩
  refine bk_186_4 ⟨fun q => absurd q (by decide), fun _ => ⟨by unfold vp_in; decide, ?_⟩⟩
  refine bk_186_4 ⟨fun q => absurd q (by decide), fun _ => ⟨by unfold vp_in; decide, ?_⟩⟩
  refine bk_186_4 ⟨fun _ => ?_, fun q => absurd (by decide) q⟩
  have e0 : M 83 (0 : Int32).toNatClampNeg = w0 := h0
  have e1 : M 83 (0 + 1 : Int32).toNatClampNeg = w1 := h1
  have e2 : M 83 (0 + 1 + 1 : Int32).toNatClampNeg = w2 := h2
  rw [e0, e1, e2, Int32.zero_add]
  exact hk
def nr_i (w0 w1 w2 : Int32) (mn : Nat → Int32) (nb : Nat) : Nat := wb_l (fun b => -(ds_v w0 w1 w2 (mn b)).toInt) nb
theorem cc_near (hn : M 76 9 = Int32.ofNat nb) (h16 : 1 ≤ nb ∧ nb ≤ 16) (h0 : M 83 0 = w0) (h1 : M 83 1 = w1) (h2 : M 83 2 = w2) (hk : Q (.inl (some (.int (Int32.ofNat (nr_i w0 w1 w2 (M 81) nb))))) (M, J, rf_w r, sh_w N, n)) :
    mc_WP (mc_en 185 [.ref 76] (M, J, rf_w r, sh_w N, n)) Q := by
  refine bk_185_0 ?_
  let f : Nat → Int := fun b => -(ds_v w0 w1 w2 (M 81 b)).toInt
  have hf1 : wb_l f 1 = 0 := by show (if f 0 < f 0 then 0 else 0) = 0; split <;> rfl
  have start : mc_WP (185, 4, [.ref 76, .int (Int32.ofNat (wb_l f (1 + 0))), .int (Int32.ofNat (1 + 0))], [], (M, J, rf_w r, sh_w N, n), (0, 0)) Q := by
    refine lp_go (C := fun k (_ : Unit) => (185, 4, [.ref 76, .int (Int32.ofNat (wb_l f (1 + k))), .int (Int32.ofNat (1 + k))], [], (M, J, rf_w r, sh_w N, n), (0, 0))) (P := fun _ _ => True) (nb - 1) () trivial ?_ ?_
    · intro k hk' _ _ next
      have nx := next () trivial
      have hlt := wb_lt f (1 + k) (by omega)
      refine bk_185_4 ?_
      rw [hn, on_n (k := 1 + k) (by omega)]
      refine ⟨fun q => absurd ((on_le (by omega) (by omega)).mp q) (by omega), fun _ => ⟨on_vp (by omega) (by omega), mc_inl ?_⟩⟩
      refine cc_dist h0 h1 h2 (bk_185_22 ⟨on_vp (by omega) (by omega), mc_inl ?_⟩)
      rw [on_n (by omega)]
      refine cc_dist h0 h1 h2 (bk_185_32 ?_)
      rw [on_1, Int32.le_iff_toInt_le]
      have e3 : wb_l f (1 + (k + 1)) = if f (wb_l f (1 + k)) < f (1 + k) then 1 + k else wb_l f (1 + k) := rfl
      have g1 : f (wb_l f (1 + k)) = -(ds_v w0 w1 w2 (M 81 (wb_l f (1 + k)))).toInt := rfl
      have g2 : f (1 + k) = -(ds_v w0 w1 w2 (M 81 (1 + k))).toInt := rfl
      rw [e3] at nx
      refine ⟨fun q => ?_, fun q => ?_⟩
      · rw [if_neg (by omega)] at nx; exact nx
      · rw [if_pos (by omega)] at nx; exact nx
    · intro _ _
      refine bk_185_4 ?_
      rw [hn, show 1 + (nb - 1) = nb by omega]
      exact ⟨fun _ => hk, fun q => absurd ((on_le (by omega) (by omega)).mpr (Nat.le_refl _)) q⟩
  rw [show 1 + 0 = 1 from rfl, hf1] at start
  exact start
theorem cm_near (hn : M 84 32 = Int32.ofNat nb) (h16 : 1 ≤ nb ∧ nb ≤ 16) (b0 : wt_b w0) (b1 : wt_b w1) (b2 : wt_b w2) (hk : Q (.inl (some (.int (Int32.ofNat (nr_i w0 w1 w2 (M 103) nb))))) (M, J, rf_w r, sh_w N, n)) :
    mc_WP (mc_en 118 [.ref 84, .int w0, .int w1, .int w2] (M, J, rf_w r, sh_w N, n)) Q := by
  refine bk_118_0 ?_
  let f : Nat → Int := fun b => -(ds_v w0 w1 w2 (M 103 b)).toInt
  refine lp_go (C := fun k (i : Int32 × Value × Value × Value × Value) => (118, 10, [.ref 84, .int w0, .int w1, .int w2, .int (Int32.ofNat (wb_l f k)), .int i.1, .int (Int32.ofNat k), i.2.1, i.2.2.1, i.2.2.2.1, i.2.2.2.2], [], (M, J, rf_w r, sh_w N, n), (0, 0))) (P := fun k i => i.1.toInt = if k = 0 then 200000 else -f (wb_l f k)) nb (Int32.ofNat 200000, .null, .null, .null, .null) rfl ?_ ?_
  · intro k hk' ⟨x5, z1, z2, z3, z4⟩ hP next
    dsimp only at hP next ⊢
    have hv : vp_in (Int32.ofNat k) 16 := on_vp (by omega) (by omega)
    have hdb := ds_b (c := M 103 k) b0 b1 b2
    refine bk_118_10 ?_
    rw [hn, on_n (k := k) (by omega)]
    refine ⟨fun q => absurd ((on_le (by omega) (by omega)).mp q) (by omega), fun _ => ⟨hv, hv, hv, ?_⟩⟩
    have ed : ((w0 - (M 103 k >>> (((16 : Int32) - ((8 : Int32) * (0 : Int32))) &&& 31) &&& (255 : Int32))) * (w0 - (M 103 k >>> (((16 : Int32) - ((8 : Int32) * (0 : Int32))) &&& 31) &&& (255 : Int32))) + (w1 - (M 103 k >>> (((16 : Int32) - ((8 : Int32) * (1 : Int32))) &&& 31) &&& (255 : Int32))) * (w1 - (M 103 k >>> (((16 : Int32) - ((8 : Int32) * (1 : Int32))) &&& 31) &&& (255 : Int32))) + (w2 - (M 103 k >>> (((16 : Int32) - ((8 : Int32) * (2 : Int32))) &&& 31) &&& (255 : Int32))) * (w2 - (M 103 k >>> (((16 : Int32) - ((8 : Int32) * (2 : Int32))) &&& 31) &&& (255 : Int32)))) = ds_v w0 w1 w2 (M 103 k) := rfl
    rw [ed, Int32.le_iff_toInt_le]
    have e3 : wb_l f (k + 1) = if f (wb_l f k) < f k then k else wb_l f k := rfl
    have g2 : f k = -(ds_v w0 w1 w2 (M 103 k)).toInt := rfl
    have nx : ∀ (w : Nat) (x5' : Int32) (z1 z2 z3 z4 : Value), wb_l f (k + 1) = w → x5'.toInt = -f w → mc_WP (118, 10, [.ref 84, .int w0, .int w1, .int w2, .int (Int32.ofNat w), .int x5', .int (Int32.ofNat (k + 1)), z1, z2, z3, z4], [], (M, J, rf_w r, sh_w N, n), (0, 0)) Q := fun w x5' z1 z2 z3 z4 hw hx => by
      have := next (x5', z1, z2, z3, z4) (by dsimp only; rw [if_neg (by omega), hw]; exact hx)
      rw [hw] at this
      exact this
    refine ⟨fun q => bk_118_97 ⟨fun _ => bk_118_113 ?_, fun q2 => absurd (Int32.le_iff_toInt_le.mpr q) q2⟩, fun q => bk_118_97 ⟨fun q2 => absurd (Int32.le_iff_toInt_le.mp q2) q, fun _ => bk_118_113 ?_⟩⟩
    · by_cases hk0 : k = 0
      · subst hk0
        rw [if_pos rfl] at hP
        omega
      · rw [if_neg hk0] at hP
        rw [on_1 (k := k)]
        exact nx _ _ _ _ _ _ (by rw [e3, if_neg (by omega)]) (by omega)
    · rw [on_1 (k := k)]
      by_cases hk0 : k = 0
      · subst hk0
        have hw0 : wb_l f 1 = 0 := by show (if f 0 < f 0 then 0 else 0) = 0; split <;> rfl
        exact nx _ _ _ _ _ _ hw0 (by omega)
      · rw [if_neg hk0] at hP
        exact nx _ _ _ _ _ _ (by rw [e3, if_pos (by omega)]) (by omega)
  · intro ⟨x5, z1, z2, z3, z4⟩ hP
    refine bk_118_10 ?_
    rw [hn]
    exact ⟨fun _ => hk, fun q => absurd ((on_le (by omega) (by omega)).mpr (Nat.le_refl _)) q⟩
theorem nr_lt (h : 1 ≤ nb) : nr_i w0 w1 w2 mn nb < nb := wb_lt _ nb h
theorem nr_eq {m1 m2 : Nat → Int32} (h : ∀ j, j < nb → m1 j = m2 j) : nr_i w0 w1 w2 m1 nb = nr_i w0 w1 w2 m2 nb := wb_eq nb fun j hj => by rw [h j hj]
end
