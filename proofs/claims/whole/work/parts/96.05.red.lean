/-! reduce: the class parts a box -/
section
variable {I M : rl_M} {J : Nat → Nat → Int64} {r N n : Nat} {Q : mc_Q} {L l : List rd_T} {c : Int32} {s m p b d nb : Nat} {bx : Nat → List rd_T}
/-- two neighbours change places -/
theorem sg_swap {M' : rl_M} {i : Nat} (h1 : M' 77 (s + i) = M 77 (s + (i + 1)) ∧ M' 78 (s + i) = M 78 (s + (i + 1))) (h2 : M' 77 (s + (i + 1)) = M 77 (s + i) ∧ M' 78 (s + (i + 1)) = M 78 (s + i)) (h3 : ∀ j, ¬ j = i → ¬ j = i + 1 → M' 77 (s + j) = M 77 (s + j) ∧ M' 78 (s + j) = M 78 (s + j)) : ∀ k, (sg_l M' s (i + 2 + k)).Perm (sg_l M s (i + 2 + k))
  | 0 => by
    rw [Nat.add_zero, sg_s, sg_s, sg_s, sg_s, h1.1, h1.2, h2.1, h2.2, sg_eq (M := M) (M' := M') (fun j hj => h3 j (by omega) (by omega)), List.append_assoc, List.append_assoc]
    exact List.Perm.append_left _ (List.Perm.swap _ _ _)
  | k + 1 => by
    rw [← Nat.add_assoc, sg_s, sg_s, (h3 (i + 2 + k) (by omega) (by omega)).1, (h3 (i + 2 + k) (by omega) (by omega)).2]
    exact List.Perm.append_right _ (sg_swap h1 h2 h3 k)
theorem cc_before {x1 x2 : Nat} (h1 : x1 < 64) (h2 : x2 < 64) (g1 : 0 ≤ (M 77 x1).toInt ∧ (M 77 x1).toInt < 16777216) (g2 : 0 ≤ (M 77 x2).toInt ∧ (M 77 x2).toInt < 16777216)
    (hk : ∀ v : Int32, (v = 1 ∧ ky_v p (M 77 x1) < ky_v p (M 77 x2) ∨ v = 0 ∧ ¬ ky_v p (M 77 x1) < ky_v p (M 77 x2)) → Q (.inl (some (.int v))) (M, J, rf_w r, sh_w N, n)) :
    mc_WP (mc_en 177 [.ref 76, .int (Int32.ofNat x1), .int (Int32.ofNat x2), .int (Int32.ofNat p)] (M, J, rf_w r, sh_w N, n)) Q := by
  have v1 : vp_in (Int32.ofNat x1) 64 := on_vp (by omega) h1
  have v2 : vp_in (Int32.ofNat x2) 64 := on_vp (by omega) h2
  have hl := ky_lt (p := p) g1 g2
  refine bk_177_0 ⟨v1, mc_inl ?_⟩
  refine bk_54_0 (bk_177_10 ⟨v2, mc_inl ?_⟩)
  refine bk_54_0 (bk_177_22 ?_)
  rw [on_n (by omega), on_n (by omega)]
  have hl2 : ky_v p (M 77 x1) < ky_v p (M 77 x2) ↔ (((M 77 x1 >>> (((8 : Int32) * ((2 : Int32) - Int32.ofNat p)) &&& 31)) &&& (255 : Int32)) < ((M 77 x2 >>> (((8 : Int32) * ((2 : Int32) - Int32.ofNat p)) &&& 31)) &&& (255 : Int32)) ∨ (((M 77 x1 >>> (((8 : Int32) * ((2 : Int32) - Int32.ofNat p)) &&& 31)) &&& (255 : Int32)) = ((M 77 x2 >>> (((8 : Int32) * ((2 : Int32) - Int32.ofNat p)) &&& 31)) &&& (255 : Int32)) ∧ M 77 x1 < M 77 x2)) := hl
  refine ⟨fun q => hk 1 (Or.inl ⟨rfl, hl2.mpr (Or.inl q)⟩), fun q => ⟨fun q2 => hk 0 (Or.inr ⟨rfl, fun z => ?_⟩), fun q2 => ⟨v1, v2, fun q3 => hk 0 (Or.inr ⟨rfl, fun z => ?_⟩), fun q3 => hk 1 (Or.inl ⟨rfl, hl2.mpr (Or.inr ⟨Classical.not_not.mp q2, ?_⟩)⟩)⟩⟩⟩
  · rcases hl2.mp z with z | z
    · exact q z
    · exact q2 z.1
  · rcases hl2.mp z with z | z
    · exact q z
    · rw [Int32.le_iff_toInt_le] at q3
      have z2 := z.2
      rw [Int32.lt_iff_toInt_lt] at z2
      omega
  · rw [Int32.le_iff_toInt_le] at q3
    rw [Int32.lt_iff_toInt_lt]
    omega
/-- all but the piece of the two rows is as it was -/
def so_K (M M' : rl_M) (s m : Nat) : Prop := (∀ b, ¬ b = 77 → ¬ b = 78 → M' b = M b) ∧ (∀ k, ¬ (s ≤ k ∧ k < s + m) → M' 77 k = M 77 k ∧ M' 78 k = M 78 k) ∧ (sg_l M' s m).Perm (sg_l M s m)
set_option maxHeartbeats 2000000 in
theorem cc_sort (hb : b < 16) (hB : bx_at M b s m) (hG : rd_G (sg_l M s m)) (hk : ∀ M', so_K M M' s m → so_l p (sg_l M' s m) → Q (.inl none) (M', J, rf_w r, sh_w N, n)) :
    mc_WP (mc_en 176 [.ref 76, .int (Int32.ofNat b), .int (Int32.ofNat p)] (M, J, rf_w r, sh_w N, n)) Q := by
  obtain ⟨h1, h2, h3, h4⟩ := hB
  have hv : vp_in (Int32.ofNat b) 16 := on_vp (by omega) hb
  refine bk_176_0 ⟨hv, ?_⟩
  rw [on_n (by omega), h1, on_1]
  have fin : ∀ M', so_K M M' s m → (∀ j, j < m → 0 ≤ (M' 77 (s + j)).toInt ∧ (M' 77 (s + j)).toInt < 16777216) ∧ ∀ i j, i < j → j < m → ¬ M' 77 (s + i) = M' 77 (s + j) := fun M' hK => by
    have hG' := hG.perm hK.2.2.symm
    exact ⟨fun j hj => (hG'.2.1 _ (sg_mem hj)).1, sg_pw.mp hG'.2.2.1⟩
  -- the first i of the box are in order
  refine lp_go (C := fun i (z : rl_M × Value) => (176, 9, [.ref 76, .int (Int32.ofNat b), .int (Int32.ofNat p), .int (Int32.ofNat (s + 1 + i)), z.2], [], (z.1, J, rf_w r, sh_w N, n), (0, 0))) (P := fun i z => so_K M z.1 s m ∧ ∀ x y, x < y → y < 1 + i → ky_v p (z.1 77 (s + x)) < ky_v p (z.1 77 (s + y))) (m - 1) (M, .null) ⟨⟨fun _ _ _ => rfl, fun _ _ => ⟨rfl, rfl⟩, List.Perm.refl _⟩, fun x y _ _ => by omega⟩ ?_ ?_
  · intro i hi ⟨M1, z⟩ ⟨hK, hS⟩ next
    dsimp only at hK hS next ⊢
    have k79 : M1 79 b = Int32.ofNat s := by rw [hK.1 79 (by decide) (by decide)]; exact h1
    have k80 : M1 80 b = Int32.ofNat (s + m) := by rw [hK.1 80 (by decide) (by decide)]; exact h2
    refine bk_176_9 ⟨hv, ?_⟩
    rw [on_n (k := b) (by omega), k80]
    refine ⟨fun q => absurd ((on_le (by omega) (by omega)).mp q) (by omega), fun _ => ?_⟩
    -- the new one moves down to t
    have go : ∀ t (M2 : rl_M), t ≤ 1 + i → so_K M M2 s m → (∀ x y, x < y → y < 2 + i → ¬ x = t → ¬ y = t → ky_v p (M2 77 (s + x)) < ky_v p (M2 77 (s + y))) → (∀ y, t < y → y < 2 + i → ky_v p (M2 77 (s + t)) < ky_v p (M2 77 (s + y))) → mc_WP (176, 22, [.ref 76, .int (Int32.ofNat b), .int (Int32.ofNat p), .int (Int32.ofNat (s + 1 + i)), .int (Int32.ofNat (s + t))], [], (M2, J, rf_w r, sh_w N, n), (0, 0)) Q := by
      intro t
      induction t with
      | zero =>
        intro M2 _ hK2 hS2 hT2
        have k79 : M2 79 b = Int32.ofNat s := by rw [hK2.1 79 (by decide) (by decide)]; exact h1
        refine bk_176_22 ⟨hv, ?_⟩
        rw [on_n (k := b) (by omega), k79]
        refine ⟨fun _ => ?_, fun q => absurd ((on_le (by omega) (by omega)).mpr (by omega)) q⟩
        rw [on_1 (k := s + 1 + i)]
        refine next (M2, _) ⟨hK2, fun x y hxy hy => ?_⟩
        by_cases q : x = 0
        · subst q; exact hT2 y hxy (by omega)
        · exact hS2 x y hxy (by omega) q (by omega)
      | succ t ih =>
        intro M2 ht hK2 hS2 hT2
        obtain ⟨f1, f2⟩ := fin M2 hK2
        have k79 : M2 79 b = Int32.ofNat s := by rw [hK2.1 79 (by decide) (by decide)]; exact h1
        refine bk_176_22 ⟨hv, ?_⟩
        rw [on_n (k := b) (by omega), k79]
        refine ⟨fun q => absurd ((on_le (by omega) (by omega)).mp q) (by omega), fun _ => ?_⟩
        rw [show (1 : Int32) = Int32.ofNat 1 from rfl, on_sub (by omega), show s + (t + 1) - 1 = s + t by omega]
        refine mc_inl ?_
        refine cc_before (by omega) (by omega) (f1 (t + 1) (by omega)) (f1 t (by omega)) fun v hv' => bk_176_44 ⟨fun q => ?_, fun q => ?_⟩
        · have hno : ¬ ky_v p (M2 77 (s + (t + 1))) < ky_v p (M2 77 (s + t)) := by
            rcases hv' with z | z
            · rw [z.1] at q; exact absurd q (by decide)
            · exact z.2
          have hlt : ky_v p (M2 77 (s + t)) < ky_v p (M2 77 (s + (t + 1))) := by
            have hne : ¬ ky_v p (M2 77 (s + t)) = ky_v p (M2 77 (s + (t + 1))) := fun z => f2 t (t + 1) (by omega) (by omega) (ky_inj (f1 t (by omega)) (f1 (t + 1) (by omega)) z)
            omega
          rw [on_1 (k := s + 1 + i)]
          refine next (M2, _) ⟨hK2, fun x y hxy hy => ?_⟩
          show ky_v p (M2 77 (s + x)) < ky_v p (M2 77 (s + y))
          by_cases q1 : x = t + 1
          · subst q1; exact hT2 y hxy (by omega)
          · by_cases q2 : y = t + 1
            · subst q2
              by_cases q3 : x = t
              · subst q3; exact hlt
              · have := hS2 x t (by omega) (by omega) (by omega) (by omega)
                omega
            · exact hS2 x y hxy (by omega) q1 q2
        · have hyes : ky_v p (M2 77 (s + (t + 1))) < ky_v p (M2 77 (s + t)) := by
            rcases hv' with z | z
            · exact z.2
            · exact absurd z.1 q
          rw [show (1 : Int32) = Int32.ofNat 1 from rfl, on_sub (by omega), show s + (t + 1) - 1 = s + t by omega]
          have w1 : vp_in (Int32.ofNat (s + (t + 1))) 64 := on_vp (by omega) (by omega)
          have w2 : vp_in (Int32.ofNat (s + t)) 64 := on_vp (by omega) (by omega)
          refine mc_inl (bk_178_0 ⟨w1, w1, w2, w1, w2, w1, w2, w2, bk_176_57 ?_⟩)
          rw [on_n (by omega), on_n (by omega), show Int32.ofNat (s + (t + 1)) + (-1) = Int32.ofNat (s + t) by rw [show s + (t + 1) = s + t + 1 by omega, Int32.ofNat_add, Int32.add_assoc]; show Int32.ofNat (s + t) + 0 = _; rw [Int32.add_zero]]
          generalize hM3 : mc_up (mc_up (mc_up (mc_up M2 77 (s + (t + 1)) (M2 77 (s + t))) 78 (s + (t + 1)) (M2 78 (s + t))) 77 (s + t) (M2 77 (s + (t + 1)))) 78 (s + t) (M2 78 (s + (t + 1))) = M3
          have r77 : ∀ k, M3 77 k = if k = s + t then M2 77 (s + (t + 1)) else if k = s + (t + 1) then M2 77 (s + t) else M2 77 k := fun k => by
            rw [← hM3, up_ne (by decide), up_row]
            dsimp only
            rw [up_ne (by decide), up_row]
          have r78 : ∀ k, M3 78 k = if k = s + t then M2 78 (s + (t + 1)) else if k = s + (t + 1) then M2 78 (s + t) else M2 78 k := fun k => by
            rw [← hM3, up_row]
            dsimp only
            rw [up_ne (by decide), up_row]
            dsimp only
            rw [up_ne (by decide)]
          have rr : ∀ b, ¬ b = 77 → ¬ b = 78 → M3 b = M2 b := fun b q1 q2 => by rw [← hM3, up_ne q2, up_ne q1, up_ne q2, up_ne q1]
          have a0 : M3 77 (s + t) = M2 77 (s + (t + 1)) := by rw [r77, if_pos rfl]
          have a1 : M3 77 (s + (t + 1)) = M2 77 (s + t) := by rw [r77, if_neg (by omega), if_pos rfl]
          have aj : ∀ j, ¬ j = t → ¬ j = t + 1 → M3 77 (s + j) = M2 77 (s + j) := fun j q1 q2 => by rw [r77, if_neg (by omega), if_neg (by omega)]
          refine ih M3 (by omega) ⟨fun b q1 q2 => (rr b q1 q2).trans (hK2.1 b q1 q2), fun k hk' => ?_, List.Perm.trans ?_ hK2.2.2⟩ (fun x y hxy hy q1 q2 => ?_) (fun y hy hy2 => ?_)
          · rw [r77, r78, if_neg (by omega), if_neg (by omega), if_neg (by omega), if_neg (by omega)]
            exact hK2.2.1 k hk'
          · have := sg_swap (M := M2) (M' := M3) (s := s) (i := t) ⟨a0, by rw [r78, if_pos rfl]⟩ ⟨a1, by rw [r78, if_neg (by omega), if_pos rfl]⟩ (fun j q1 q2 => ⟨aj j q1 q2, by rw [r78, if_neg (by omega), if_neg (by omega)]⟩) (m - (t + 2))
            rw [show t + 2 + (m - (t + 2)) = m by omega] at this
            exact this
          · by_cases q3 : x = t + 1
            · subst q3
              rw [a1, aj y (by omega) (by omega)]
              exact hS2 t y (by omega) hy (by omega) (by omega)
            · by_cases q4 : y = t + 1
              · subst q4
                rw [a1, aj x q1 q3]
                exact hS2 x t (by omega) (by omega) q3 (by omega)
              · rw [aj x q1 q3, aj y q2 q4]
                exact hS2 x y hxy hy q3 q4
          · rw [a0]
            by_cases q3 : y = t + 1
            · subst q3; rw [a1]; exact hyes
            · rw [aj y (by omega) q3]
              exact hT2 y (by omega) hy2
    rw [show s + 1 + i = s + (1 + i) by omega]
    have := go (1 + i) M1 (Nat.le_refl _) hK (fun x y hxy hy q1 q2 => hS x y hxy (by omega)) (fun y q1 q2 => by omega)
    rw [show s + 1 + i = s + (1 + i) by omega] at this
    exact this
  · intro ⟨M1, z⟩ ⟨hK, hS⟩
    dsimp only at hK hS ⊢
    have k80 : M1 80 b = Int32.ofNat (s + m) := by rw [hK.1 80 (by decide) (by decide)]; exact h2
    refine bk_176_9 ⟨hv, ?_⟩
    rw [on_n (k := b) (by omega), k80]
    refine ⟨fun _ => hk M1 hK (sg_pw.mpr fun i j hij hj => hS i j hij (by omega)), fun q => absurd ((on_le (by omega) (by omega)).mpr (by omega)) q⟩
end
