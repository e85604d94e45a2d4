/-! reduce: the reference's boxes -/
section
variable {I M : rl_M} {J : Nat → Nat → Int64} {r N n : Nat} {Q : mc_Q} {L l : List rd_T} {c v : Int32} {s m p b d nb k : Nat} {bx : Nat → List rd_T}
def fl_l (M : rl_M) (d : Nat) (v : Int32) : List rd_T := ((List.range d).filter fun k => M 102 k = v).map fun k => (M 100 k, M 101 k)
theorem fl_s1 (h : M 102 k = v) : fl_l M (k + 1) v = fl_l M k v ++ [(M 100 k, M 101 k)] := by
  unfold fl_l
  rw [List.range_succ, List.filter_append, List.map_append, List.filter_cons_of_pos (by simpa using h)]
  rfl
theorem fl_s0 (h : ¬ M 102 k = v) : fl_l M (k + 1) v = fl_l M k v := by
  unfold fl_l
  rw [List.range_succ, List.filter_append, List.map_append, List.filter_cons_of_neg (by simpa using h)]
  simp
theorem fl_mem {a : rd_T} : a ∈ fl_l M d v ↔ ∃ k, k < d ∧ M 102 k = v ∧ a = (M 100 k, M 101 k) := by
  unfold fl_l
  simp only [List.mem_map, List.mem_filter, List.mem_range, decide_eq_true_eq]
  constructor
  · rintro ⟨k, ⟨h1, h2⟩, h3⟩
    exact ⟨k, h1, h2, h3.symm⟩
  · rintro ⟨k, h1, h2, h3⟩
    exact ⟨k, ⟨h1, h2⟩, h3.symm⟩
theorem ml_rng (p : Nat) : ∀ l : List rd_T, (-1 ≤ mx_l p l ∧ mx_l p l ≤ 255) ∧ 0 ≤ mn_l p l ∧ mn_l p l ≤ 256
  | [] => by show (-1 ≤ (-1 : Int) ∧ (-1 : Int) ≤ 255) ∧ 0 ≤ (256 : Int) ∧ (256 : Int) ≤ 256; omega
  | a :: l => by
    have h1 := ml_rng p l
    have h2 := pt_Ib p a
    show (-1 ≤ max (pt_I p a) (mx_l p l) ∧ max (pt_I p a) (mx_l p l) ≤ 255) ∧ 0 ≤ min (pt_I p a) (mn_l p l) ∧ min (pt_I p a) (mn_l p l) ≤ 256
    omega
theorem pn_3 (hp : p < 3) : Int32.ofNat p = 0 ∨ Int32.ofNat p = 1 ∨ Int32.ofNat p = 2 := by
  rcases (show p = 0 ∨ p = 1 ∨ p = 2 by omega) with rfl | rfl | rfl
  · exact Or.inl rfl
  · exact Or.inr (Or.inl rfl)
  · exact Or.inr (Or.inr rfl)
theorem cm_spread (hd : M 84 28 = Int32.ofNat d) (h64 : d ≤ 64) (hp : p < 3) (hk : ∀ w : Int32, w.toInt = sr_l p (fl_l M d v) → Q (.inl (some (.int w))) (M, J, rf_w r, sh_w N, n)) :
    mc_WP (mc_en 114 [.ref 84, .int v, .int (Int32.ofNat p)] (M, J, rf_w r, sh_w N, n)) Q := by
  refine bk_114_0 ?_
  refine lp_go (C := fun j (i : Int32 × Int32 × Value) => (114, 10, [.ref 84, .int v, .int (Int32.ofNat p), .int i.1, .int i.2.1, .int (Int32.ofNat j), i.2.2], [], (M, J, rf_w r, sh_w N, n), (0, 0))) (P := fun j i => i.1.toInt = mn_l p (fl_l M j v) ∧ i.2.1.toInt = mx_l p (fl_l M j v)) d ((256 : Int32), (-1 : Int32), .null) ⟨rfl, rfl⟩ ?_ ?_
  · intro j hj ⟨lo, hi, z⟩ ⟨q1, q2⟩ next
    dsimp only at q1 q2 next ⊢
    refine bk_114_10 ?_
    rw [hd, on_n (by omega), pt_m (pn_3 hp), on_1]
    have hv : vp_in (Int32.ofNat j) 64 := on_vp (by omega) (by omega)
    have e : pt_I p (M 100 j, M 101 j) = (pt_v (M 100 j) (Int32.ofNat p)).toInt := rfl
    refine ⟨fun q => absurd ((on_le (by omega) (by omega)).mp q) (by omega), fun _ => ⟨hv, hv, fun h => ⟨hv, fun _ => next (_, _, _) ?_, fun h' => absurd h h'⟩, fun h => ?_⟩⟩
    · rw [fl_s0 h]; exact ⟨q1, q2⟩
    · have h2 := Classical.not_not.mp h
      have nx : ∀ a b z, a.toInt = min lo.toInt (pt_v (M 100 j) (Int32.ofNat p)).toInt → b.toInt = max hi.toInt (pt_v (M 100 j) (Int32.ofNat p)).toInt → mc_WP (114, 10, [.ref 84, .int v, .int (Int32.ofNat p), .int a, .int b, .int (Int32.ofNat (j + 1)), z], [], (M, J, rf_w r, sh_w N, n), (0, 0)) Q := fun a b z ha hb => next (a, b, z) (by
        rw [fl_s1 h2, mn_snoc, mx_snoc, e]
        dsimp only
        omega)
      refine ⟨fun c1 => ⟨hv, fun q => absurd h2 q, fun _ => ⟨fun c2 => nx _ _ _ ?_ ?_, fun c2 => nx _ _ _ ?_ ?_⟩⟩, fun c1 => ⟨hv, fun q => absurd h2 q, fun _ => ⟨fun c2 => nx _ _ _ ?_ ?_, fun c2 => nx _ _ _ ?_ ?_⟩⟩⟩ <;> (rw [Int32.le_iff_toInt_le] at c1 c2; omega)
  · intro ⟨lo, hi, z⟩ ⟨q1, q2⟩
    dsimp only at q1 q2 ⊢
    refine bk_114_10 ?_
    rw [hd]
    refine ⟨fun _ => hk _ ?_, fun q => absurd ((on_le (by omega) (by omega)).mpr (Nat.le_refl _)) q⟩
    have := ml_rng p (fl_l M d v)
    unfold sr_l
    rw [Int32.toInt_sub, Int.bmod_def]
    omega
theorem cm_wpart (hd : M 84 28 = Int32.ofNat d) (h64 : d ≤ 64) (hk : Q (.inl (some (.int (Int32.ofNat (wp_l (fl_l M d v)))))) (M, J, rf_w r, sh_w N, n)) :
    mc_WP (mc_en 115 [.ref 84, .int v] (M, J, rf_w r, sh_w N, n)) Q := by
  refine bk_115_0 (mc_inl ?_)
  refine cm_spread (p := 1) hd h64 (by decide) fun y0 h0 => bk_115_6 (mc_inl ?_)
  refine cm_spread (p := 0) hd h64 (by decide) fun y1 h1 => bk_115_12 ?_
  rw [Int32.le_iff_toInt_le]
  have two : ∀ w : Nat, w < 3 → (∀ z : Nat, (z = if sr_l w (fl_l M d v) < sr_l 2 (fl_l M d v) then 2 else w) → z = wp_l (fl_l M d v)) → mc_WP (mc_en 114 [.ref 84, .int v, .int 2] (M, J, rf_w r, sh_w N, n)) (mc_kr (fun q t => mc_WP (115, 27, [.ref 84, .int v, .int (Int32.ofNat w)], q.toList ++ [], t, (0, 0)) Q) (fun k t => Q (.inr k) t)) := fun w hw he => by
    refine cm_spread (p := 2) hd h64 (by decide) fun y2 h2 => bk_115_27 (mc_inl ?_)
    refine cm_spread (p := w) hd h64 hw fun y3 h3 => bk_115_33 ?_
    rw [Int32.le_iff_toInt_le]
    refine ⟨fun q => ?_, fun q => ?_⟩
    · rw [← he w (by rw [if_neg (by omega)])] at hk; exact hk
    · rw [← he 2 (by rw [if_pos (by omega)])] at hk; exact hk
  refine ⟨fun q => mc_inl (two 0 (by decide) fun z hz => ?_), fun q => mc_inl (two 1 (by decide) fun z hz => ?_)⟩
  · unfold wp_l; rw [if_neg (by omega)]; exact hz
  · unfold wp_l; rw [if_pos (by omega)]; exact hz
/-- the reference's boxes are those -/
def mb_is (M : rl_M) (d nb : Nat) (bx : Nat → List rd_T) : Prop := M 84 28 = Int32.ofNat d ∧ d ≤ 64 ∧ M 84 32 = Int32.ofNat nb ∧ (1 ≤ nb ∧ nb ≤ 16) ∧ (∀ k, k < d → ∃ b, b < nb ∧ M 102 k = Int32.ofNat b) ∧ ∀ b, b < nb → (fl_l M d (Int32.ofNat b)).Perm (bx b)
theorem cm_widest (h : mb_is M d nb bx) (hG : ∀ b, b < nb → rd_G (bx b))
    (h0 : ws_l (bx (rd_w bx nb)) = 0 → Q (.inl (some (.int 0))) (M, J, rf_w r, sh_w N, n))
    (h1 : ¬ ws_l (bx (rd_w bx nb)) = 0 → ∀ x2 x3 x4, mc_WP (116, 68, [.ref 84, .int (Int32.ofNat (rd_w bx nb)), .int x2, .int x3, x4, .null, .null, .null, .null, .null, .null], [.int (Int32.ofNat (wp_l (bx (rd_w bx nb))))], (M, J, rf_w r, sh_w N, n), (0, 0)) Q) :
    mc_WP (mc_en 116 [.ref 84] (M, J, rf_w r, sh_w N, n)) Q := by
  obtain ⟨a1, a2, a3, a4, a5, a6⟩ := h
  let f : Nat → Int := fun b => ws_l (bx b)
  have fnn : ∀ b, b < nb → 0 ≤ f b := fun b hb => sr_nn (hG b hb).1
  have hne : ∀ b, b < nb → fl_l M d (Int32.ofNat b) ≠ [] := fun b hb q => by
    have := a6 b hb
    rw [q] at this
    exact (hG b hb).1 this.symm.eq_nil
  have ews : ∀ b, b < nb → sr_l (wp_l (fl_l M d (Int32.ofNat b))) (fl_l M d (Int32.ofNat b)) = f b := fun b hb => ws_perm (hne b hb) (a6 b hb)
  refine bk_116_0 ?_
  refine lp_go (C := fun j (i : Int32 × Value) => (116, 6, [.ref 84, .int (Int32.ofNat (wb_l f j)), .int i.1, .int (Int32.ofNat j), i.2, .null, .null, .null, .null, .null, .null], [], (M, J, rf_w r, sh_w N, n), (0, 0))) (P := fun j i => i.1.toInt = if j = 0 then 0 else f (wb_l f j)) nb ((0 : Int32), .null) rfl ?_ ?_
  · intro j hj ⟨x2, z⟩ hP next
    dsimp only at hP next ⊢
    refine bk_116_6 ?_
    rw [a3]
    refine ⟨fun q => absurd ((on_le (by omega) (by omega)).mp q) (by omega), fun _ => mc_inl ?_⟩
    refine cm_wpart a1 a2 (bk_116_21 (mc_inl ?_))
    refine cm_spread a1 a2 (wp_3 _) fun y hy => bk_116_24 ?_
    rw [ews j hj] at hy
    rw [Int32.le_iff_toInt_le, on_1]
    have e3 : wb_l f (j + 1) = if f (wb_l f j) < f j then j else wb_l f j := rfl
    have fj := fnn j hj
    have nx : ∀ (w : Nat) (x2' : Int32) (z' : Value), wb_l f (j + 1) = w → x2'.toInt = f w → mc_WP (116, 6, [.ref 84, .int (Int32.ofNat w), .int x2', .int (Int32.ofNat (j + 1)), z', .null, .null, .null, .null, .null, .null], [], (M, J, rf_w r, sh_w N, n), (0, 0)) Q := fun w x2' z' hw hx => by
      have := next (x2', z') (by dsimp only; rw [if_neg (by omega), hw]; exact hx)
      rw [hw] at this
      exact this
    by_cases hj0 : j = 0
    · subst hj0
      rw [if_pos rfl] at hP
      have hw0 : wb_l f 1 = 0 := by show (if f 0 < f 0 then 0 else 0) = 0; split <;> rfl
      refine ⟨fun q => ⟨fun _ => nx 0 _ _ hw0 (by omega), fun q2 => absurd q q2⟩, fun q => ⟨fun q2 => absurd q2 q, fun _ => nx 0 _ _ hw0 (by omega)⟩⟩
    · rw [if_neg hj0] at hP
      refine ⟨fun q => ⟨fun _ => nx _ _ _ (by rw [e3, if_neg (by omega)]) (by omega), fun q2 => absurd q q2⟩, fun q => ⟨fun q2 => absurd q2 q, fun _ => nx _ _ _ (by rw [e3, if_pos (by omega)]) (by omega)⟩⟩
  · intro ⟨x2, z⟩ hP
    dsimp only at hP ⊢
    rw [if_neg (by omega)] at hP
    have hw := wb_lt f nb (by omega)
    refine bk_116_6 ?_
    rw [a3]
    refine ⟨fun _ => ⟨fun q => mc_inl ?_, fun q => h0 ?_⟩, fun q => absurd ((on_le (by omega) (by omega)).mpr (Nat.le_refl _)) q⟩
    · refine cm_wpart a1 a2 ?_
      rw [wp_perm (hne _ hw) (a6 _ hw)]
      refine h1 (fun z => q ?_) _ _ _
      rw [← Int32.toInt_inj, hP, i3_0]
      exact z
    · have q2 := Classical.not_not.mp q
      rw [q2, i3_0] at hP
      exact hP.symm
end
