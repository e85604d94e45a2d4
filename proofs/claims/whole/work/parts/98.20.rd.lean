/-! read: PaletteReel.read, its wrapper, the turn -/
section
variable {I M M' M1 : rl_M} {J : Nat → Nat → Int64} {r N n : Nat} {Q : mc_Q} {x4 : Int32} {x5 x6 : Value} {u : mc_U} {B : rd_B} {Rs : List fr_T}
abbrev rdg_n (B : rd_B) : Prop := ¬ hd_C B ∨ rl_f B (B.2 4 + 1) 900 (5 + 3 * 2 ^ (B.2 4 + 1)) 0 (0, 0, -1) = none
abbrev rdg_y (B : rd_B) (Rs : List fr_T) : Prop := hd_C B ∧ rl_f B (B.2 4 + 1) 900 (5 + 3 * 2 ^ (B.2 4 + 1)) 0 (0, 0, -1) = some Rs
theorem rdg_x (h : rdg_n B) (g : rdg_y B Rs) : False := by
  rcases h with q | q
  · exact q g.1
  · exact absurd (q.symm.trans g.2) (by simp)
/-- what the class's read leaves -/
def rdg_is (r : Nat) (I M1 M' : rl_M) : Prop := (∀ b, ¬ b = 12 → ¬ b = 75 → M' b = M1 b) ∧ (∀ k, k < 64 → M' 75 k = if M1 (48 - r) 2 = I r 2 ∧ M1 (48 - r) 3 = I r 3 then I 75 k else 0) ∧ ∀ k, k < 64 → M' 12 k = -1
theorem cc_read (hr : is_R r) (hK : rb_K I) (hB : rd_ok B) (hb : by_c I B)
    (hn : ∀ M', pr_K (48 - r) I M' → rdg_n B → Q (.inr 2) (M', J, rf_w r, sh_w N, 0))
    (hk : ∀ M' M1 Rs, pr_K (48 - r) I M1 → rdg_y B Rs → pr_is B M1 (48 - r) Rs → Rs.length ≤ 4 → rdg_is r I M1 M' → Q (.inl (some (.int (Int32.ofNat Rs.length)))) (M', J, rf_w (48 - r), sh_w N, n)) :
    mc_WP (mc_en 9 [.ref 10] (I, J, rf_w r, sh_w N, n)) Q := by
  have hb2 := R_lt hr
  refine bk_9_0 hr (mc_inl ?_)
  refine cc_parse hB hb (wd_Q hr) hK.1 hK.2.1 (fun M' k1 hbad => ?_) (fun M1 Rs k1 hC hrl hp hl => ?_)
  · exact bk_9_11 ⟨fun q => absurd rfl q, fun _ => hn M' k1 hbad⟩
  · refine bk_9_11 ⟨fun _ => ?_, fun q => absurd (by decide) q⟩
    have er : M1 r = I r := k1.1 r (by omega) (by omega)
    have e75 : M1 75 = I 75 := k1.1 75 (by decide) (by omega)
    have fin : ∀ M2 : rl_M, (∀ b, ¬ b = 75 → M2 b = M1 b) → (∀ k, k < 64 → M2 75 k = if M1 (48 - r) 2 = I r 2 ∧ M1 (48 - r) 3 = I r 3 then I 75 k else 0) → mc_WP (9, 66, [.ref 10, .null], [], (M2, J, rf_w r, sh_w N, n), (0, 0)) Q := fun M2 g1 g2 => by
      refine bg_9_66 ?_
      rw [rf_sw hr]
      refine ⟨⟨rfl, wd_R0 hr⟩, ⟨rfl, wd_R0 (wd_Q hr)⟩, ⟨rfl, wd_R0 (wd_Q hr)⟩, ⟨rfl, wd_R0 hr⟩, ⟨rfl, show ¬ (11 : Nat) = 0 by decide⟩, rfl, mc_inl ?_⟩
      refine gg_empty (a := 11) (q := 12) rfl rfl rfl (by decide) ?_
      have e : mc_fl M2 12 0 64 (-1) (48 - r) 4 = Int32.ofNat Rs.length := by rw [fl_ne (by omega), g1 _ (by omega)]; exact hp.1.2.2
      refine bg_9_91 (a0 := 10) ⟨⟨rfl, wd_R0 (wd_Q hr)⟩, (wd_R (r := r) (N := N) (wd_Q hr)).1, ?_⟩
      show Q (.inl (some (.int (mc_fl M2 12 0 64 (-1) (48 - r) 4)))) _
      rw [e]
      exact hk _ M1 Rs k1 ⟨hC, hrl⟩ hp hl ⟨fun b q1 q2 => by rw [fl_ne q1, g1 b q2], fun k hk' => by rw [fl_ne (by decide)]; exact g2 k hk', fun k hk' => fl_in (by omega)⟩
    have fill : ¬ (M1 (48 - r) 2 = I r 2 ∧ M1 (48 - r) 3 = I r 3) → mc_WP (9, 66, [.ref 10, .null], [], (mc_fl M1 75 0 64 0, J, rf_w r, sh_w N, n), (0, 0)) Q := fun q => fin _ (fun b z => fl_ne z) fun k hk' => by rw [if_neg q]; exact fl_in (by omega)
    refine bk_9_24 hr ?_
    rw [er]
    refine ⟨fun q => mc_inl (cc_fill (z := 64) rfl (by decide) (by decide) (fill fun z => q z.1)), fun q => ⟨fun q2 => fin M1 (fun _ _ => rfl) fun k hk' => by rw [if_pos ⟨Classical.not_not.mp q, q2⟩, e75], fun q2 => mc_inl (cc_fill (z := 64) rfl (by decide) (by decide) (fill fun z => q2 z.2))⟩⟩
theorem cw_read (hr : is_R r) (hK : rb_K I) (hB : rd_ok B) (hb : by_c I B)
    (hn : ∀ M', pr_K (48 - r) I M' → rdg_n B → Q (.inl (some (.int 1))) (M', J, rf_w r, sh_w N, 0))
    (hk : ∀ M' M1 Rs, pr_K (48 - r) I M1 → rdg_y B Rs → pr_is B M1 (48 - r) Rs → Rs.length ≤ 4 → rdg_is r I M1 M' → Q (.inl (some (.int 0))) (M', mc_up J 105 0 (Int32.ofNat Rs.length).toInt64, rf_w (48 - r), sh_w N, n)) :
    mc_WP (mc_en 37 [.ref 10, .ref 105] (I, J, rf_w r, sh_w N, n)) Q := by
  refine bk_37_0 (a1z := 1) rfl (mc_inl ?_)
  refine cc_read hr hK hB hb (fun M' k1 hbad => hn M' k1 hbad) (fun M' M1 Rs k1 hg hp hl hc => ?_)
  refine bk_37_6 (a1z := 1) (b0z := 1) rfl rfl (by decide) ⟨by unfold vp_in; decide, ?_⟩
  exact hk M' M1 Rs k1 hg hp hl hc
/-- the bytes that both hold -/
def rdg_of (I : rl_M) : rd_B := ((I 84 10).toNatClampNeg, fun k => if k < (I 84 10).toNatClampNeg then (I 91 k).toNatClampNeg else 0)
theorem rdg_ok (h : rb_B (I 54 1) (I 55) (I 84 10) (I 91)) : rd_ok (rdg_of I) ∧ by_c I (rdg_of I) ∧ by_m I (rdg_of I) := by
  obtain ⟨h1, h2, h3⟩ := h
  obtain ⟨m, e1, e2, e3, e4⟩ := on_get (v := I 84 10) h2.1
  have f1 : (rdg_of I).1 = m := e3
  have f2 : ∀ k, (rdg_of I).2 k = if k < m then (I 91 k).toNatClampNeg else 0 := fun k => by show (if k < (I 84 10).toNatClampNeg then (I 91 k).toNatClampNeg else 0) = _; rw [e3]
  have g : ∀ k, k < m → I 91 k = Int32.ofNat ((rdg_of I).2 k) ∧ (rdg_of I).2 k < 256 := fun k hk => by
    obtain ⟨-, b1, b2⟩ := h3 k (by omega)
    obtain ⟨w, w1, w2, w3, w4⟩ := on_get (v := I 91 k) b1
    rw [f2, if_pos hk, w3]
    exact ⟨w1, by omega⟩
  refine ⟨⟨by omega, fun k => ?_⟩, ⟨by rw [h1, f1]; exact e1, fun k hk => ?_⟩, ⟨by rw [f1]; exact e1, fun k hk => ?_⟩⟩
  · by_cases hk : k < m
    · exact (g k hk).2
    · rw [f2, if_neg hk]; decide
  · rw [f1] at hk
    rw [(h3 k (by omega)).1]
    exact (g k hk).1
  · rw [f1] at hk
    exact (g k hk).1
end
