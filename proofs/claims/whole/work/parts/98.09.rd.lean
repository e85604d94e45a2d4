/-! read: a frame: pure -/
section
variable {B : rd_B} {fr a b c e k t w z n tot code i : Nat} {Z : lz_Z} {x : Int32} {st st' : rd_S} {P P' : List Int32} {cc : rd_c}
def nn_Z (fr : Nat) (Z : lz_Z) : Prop := ∀ c, va_c fr Z c → ∀ a ∈ Z.2.2.1 c, 0 ≤ a.toInt
theorem nn_0 (hf : fr ≤ 16) : nn_Z fr (lz_0 fr) := fun c hc a ha => by
  have : a = Int32.ofNat c := List.mem_singleton.mp ha
  have h64 : c < 64 := wk_lt (wk_0 hf) hf hc
  rw [this, on_t (by omega)]; omega
theorem nn_fs (hf : fr ≤ 16) (h : wk_ok fr Z) (hat : wk_at fr Z) (hn : nn_Z fr Z) (ha : al_c fr Z c) : 0 ≤ (fs_c Z c).toInt := by
  have hd : ∀ e, va_c fr Z e → 0 ≤ ((Z.2.2.1 e).headD 0).toInt := fun e he => by
    cases hl : Z.2.2.1 e with
    | nil => decide
    | cons x l => exact hn e he x (by rw [hl]; exact List.mem_cons_self ..)
  have z1 := h.1
  unfold fs_c
  by_cases q : c < Z.1
  · rw [if_pos q]
    refine hd c ?_
    rcases ha with w | w | w
    · exact Or.inl w
    · exact Or.inr w
    · omega
  · rw [if_neg q]
    rcases hat with w | ⟨b, b1, b2⟩
    · rcases ha with v | v | v
      · omega
      · omega
      · exact absurd w.1 v.2.1
    · rw [b2, on_n (by have := wk_lt h hf b1; omega)]
      exact hd b b1
theorem nn_nw (hf : fr ≤ 16) (h : wk_ok fr Z) (hat : wk_at fr Z) (hn : nn_Z fr Z) (hx : 0 ≤ x.toInt) : nn_Z fr (lz_nw Z x) := by
  by_cases q : Z.2.1 = -1 ∨ 63 < Z.1
  · rw [nw_old q]; exact hn
  · rw [nw_new q]
    rcases hat with w | ⟨b, b1, b2⟩
    · exact absurd (Or.inl w.1) q
    · intro c hc a ha
      have ha' : a ∈ (if c = Z.1 then Z.2.2.1 Z.2.1.toNatClampNeg ++ [x] else Z.2.2.1 c) := ha
      by_cases z : c = Z.1
      · rw [if_pos z, b2, on_n (by have := wk_lt h hf b1; omega)] at ha'
        rcases List.mem_append.mp ha' with y | y
        · exact hn b b1 a y
        · rw [List.mem_singleton.mp y]; exact hx
      · rw [if_neg z] at ha'
        refine hn c ?_ a ha'
        rcases hc with y | y
        · exact Or.inl y
        · have : c < Z.1 + 1 := y.2
          exact Or.inr ⟨y.1, by omega⟩
theorem nn_rf (hn : nn_Z fr Z) : nn_Z fr (lz_rf fr Z) := fun c hc a ha => by
  rcases hc with y | y
  · exact hn c (Or.inl y) a ha
  · have : c < fr + 2 := y.2
    omega
theorem tc_rm (hB : B.1 ≤ 800) (h : tc_f B w st = some (code, st')) : (rm_f B st.1 = none → rm_f B st'.1 = none) ∧ (st.1.1 ≤ B.1 → st'.1.1 ≤ B.1) := by
  unfold tc_f at h
  split at h
  · obtain ⟨_, e⟩ := Prod.mk.inj (Option.some.inj h)
    rw [← e]; exact ⟨id, id⟩
  · cases hn : nb_f B st.1 with
    | none => rw [hn] at h; cases h
    | some p =>
      obtain ⟨y, c'⟩ := p
      rw [hn] at h
      obtain ⟨_, e⟩ := Prod.mk.inj (Option.some.inj h)
      rw [← e]
      exact ⟨(rm_step hB hn).1, fun _ => (nb_at hn).2.2⟩
theorem dr_all (hB : B.1 ≤ 800) (hf : fr ≤ 16) : ∀ t st Z P cc P', dr_f B fr tot t st Z P = some (cc, P') → wk_ok fr Z → wk_at fr Z → nn_Z fr Z → (∀ p ∈ P, 0 ≤ p.toInt) → P'.length = tot ∧ (∀ p ∈ P', 0 ≤ p.toInt) ∧ (rm_f B st.1 = none → rm_f B cc = none) := by
  intro t
  induction t with
  | zero => intro st Z P cc P' h; cases h
  | succ t ih =>
    intro st Z P cc P' h hok hat hnn hP
    cases htc : tc_f B (gw fr Z) st with
    | none => rw [dr_n htc] at h; cases h
    | some p =>
      obtain ⟨code, s1⟩ := p
      have hr := (tc_rm hB htc).1
      by_cases q1 : code = fr + 1
      · subst q1
        rw [dr_e htc] at h
        by_cases q : P.length = tot
        · rw [if_pos q] at h
          obtain ⟨e1, e2⟩ := Prod.mk.inj (Option.some.inj h)
          rw [← e1, ← e2]
          exact ⟨q, hP, hr⟩
        · rw [if_neg q] at h; cases h
      · by_cases q2 : code = fr
        · subst q2
          rw [dr_r htc] at h
          obtain ⟨g1, g2, g3⟩ := ih _ _ _ _ _ h (wk_rf hf hok) (Or.inl ⟨rfl, rfl⟩) (nn_rf hnn) hP
          exact ⟨g1, g2, fun z => g3 (hr z)⟩
        · by_cases q3 : al_c fr Z code
          · rw [dr_c htc q1 q2 q3] at h
            by_cases q4 : P.length + ((lz_nw Z (fs_c Z code)).2.2.1 code).length ≤ tot
            · rw [if_pos q4] at h
              have nn2 := nn_nw hf hok hat hnn (nn_fs hf hok hat hnn q3)
              have va := al_va (x := fs_c Z code) hf hok q3
              obtain ⟨g1, g2, g3⟩ := ih _ _ _ _ _ h (wk_nw hf hok hat) (Or.inr ⟨code, va, rfl⟩) nn2 (fun p hp => by
                rcases List.mem_append.mp hp with y | y
                · exact hP p y
                · exact nn2 code va p y)
              exact ⟨g1, g2, fun z => g3 (hr z)⟩
            · rw [if_neg q4] at h; cases h
          · rw [dr_x htc q1 q2 q3] at h; cases h
theorem pd_1 (h : tc_f B (gw fr (lz_0 fr)) ((a, 0), 0, 0) = none) : pd_f B fr tot a = none := by unfold pd_f; rw [h]
theorem pd_2 (h : tc_f B (gw fr (lz_0 fr)) ((a, 0), 0, 0) = some (code, st)) (hc : ¬ code = fr) : pd_f B fr tot a = none := by unfold pd_f; rw [h]; exact if_neg hc
theorem pd_3 (h : tc_f B (gw fr (lz_0 fr)) ((a, 0), 0, 0) = some (fr, st)) (hd : dr_f B fr tot 7000 st (lz_0 fr) [] = none) : pd_f B fr tot a = none := by
  unfold pd_f
  rw [h]
  show (if fr = fr then _ else _) = _
  rw [if_pos rfl, hd]
theorem pd_4 (h : tc_f B (gw fr (lz_0 fr)) ((a, 0), 0, 0) = some (fr, st)) (hd : dr_f B fr tot 7000 st (lz_0 fr) [] = some (cc, P)) : pd_f B fr tot a = if cc.1 + cc.2 < B.1 ∧ B.2 (cc.1 + cc.2) = 0 then some (P, cc.1 + cc.2 + 1) else none := by
  unfold pd_f
  rw [h]
  show (if fr = fr then _ else _) = _
  rw [if_pos rfl, hd]
theorem pd_all (hB : B.1 ≤ 800) (hf : fr ≤ 16) (h : pd_f B fr tot a = some (P, z)) : P.length = tot ∧ (∀ p ∈ P, 0 ≤ p.toInt) ∧ z ≤ B.1 ∧ ¬ bk_s B a = none := by
  cases htc : tc_f B (gw fr (lz_0 fr)) ((a, 0), 0, 0) with
  | none => rw [pd_1 htc] at h; cases h
  | some p =>
    obtain ⟨code, s1⟩ := p
    by_cases q : code = fr
    · subst q
      cases hd : dr_f B code tot 7000 s1 (lz_0 code) [] with
      | none => rw [pd_3 htc hd] at h; cases h
      | some p =>
        obtain ⟨cc, P'⟩ := p
        rw [pd_4 htc hd] at h
        by_cases q2 : cc.1 + cc.2 < B.1 ∧ B.2 (cc.1 + cc.2) = 0
        · rw [if_pos q2] at h
          obtain ⟨e1, e2⟩ := Prod.mk.inj (Option.some.inj h)
          obtain ⟨g1, g2, g3⟩ := dr_all hB hf _ _ _ _ _ _ hd (wk_0 hf) (Or.inl ⟨rfl, rfl⟩) (nn_0 hf) (fun p hp => absurd hp (by simp))
          rw [← e1, ← e2]
          refine ⟨g1, g2, by omega, fun hb => ?_⟩
          have hr : rm_f B (a, 0) = none := by unfold rm_f; rw [Nat.add_zero, hb]; rfl
          have := g3 ((tc_rm hB htc).1 hr)
          obtain ⟨cu, hcu⟩ := rm_fin hB (c := cc) q2
          rw [this] at hcu
          cases hcu
        · rw [if_neg q2] at h; cases h
    · rw [pd_2 htc q] at h; cases h
/-- a frame as it is read: place, flags, settings, colours, pixels -/
abbrev fr_T : Type := (Nat × Nat × Nat × Nat) × (Nat × Nat) × (Nat × Nat × Int32) × (Nat → Int32) × List Int32
def pf_n (B : rd_B) (a : Nat) : Nat := cn_b (fl_b (B.2 (a + 4)))
def pf_e (B : rd_B) (a sb : Nat) : Nat := if fl_b (B.2 (a + 4)) = 0 then sb else fl_b (B.2 (a + 4))
abbrev pf_C (B : rd_B) (a : Nat) : Prop := (tk_v B a 0 7 ∧ tk_v B (a + 1) 0 7 ∧ tk_v B (a + 2) 1 8 ∧ tk_v B (a + 3) 1 8) ∧ tk_v B (a + 4) 0 15 ∧ fl_o (B.2 (a + 4)) ∧ a + 5 + 3 * pf_n B a ≤ B.1 ∧ tk_v B (a + 5 + 3 * pf_n B a) 2 4
def pf_r (B : rd_B) (a : Nat) (st : Nat × Nat × Int32) (P : List Int32) : fr_T := ((B.2 a, B.2 (a + 1), B.2 (a + 2), B.2 (a + 3)), (B.2 (a + 4) % 2, fl_b (B.2 (a + 4))), st, (fun k => if k < pf_n B a then cv_f B (a + 5 + 3 * k) else 0), P)
abbrev pf_D (B : rd_B) (a sb : Nat) (st : Nat × Nat × Int32) (P : List Int32) : Prop := st.2.2.toInt < ((2 ^ pf_e B a sb : Nat) : Int) ∧ ∀ p ∈ P, p.toInt < ((2 ^ pf_e B a sb : Nat) : Int)
noncomputable def pf_d (B : rd_B) (a : Nat) : Option (List Int32 × Nat) := pd_f B (2 ^ B.2 (a + 5 + 3 * pf_n B a)) (B.2 (a + 2) * B.2 (a + 3)) (a + 6 + 3 * pf_n B a)
noncomputable def pf_f (B : rd_B) (a sb : Nat) (st : Nat × Nat × Int32) : Option (fr_T × Nat) := if pf_C B a then (match pf_d B a with
  | none => none
  | some (P, z) => if pf_D B a sb st P then some (pf_r B a st P, z) else none) else none
theorem pf_0 {sb : Nat} {s : Nat × Nat × Int32} (h : ¬ pf_C B a) : pf_f B a sb s = none := if_neg h
theorem pf_1 {sb : Nat} {s : Nat × Nat × Int32} (hd : pf_d B a = none) : pf_f B a sb s = none := by
  unfold pf_f
  rw [hd]
  split <;> rfl
theorem pf_2 {sb : Nat} {s : Nat × Nat × Int32} (hd : pf_d B a = some (P, z)) (h2 : ¬ pf_D B a sb s P) : pf_f B a sb s = none := by
  unfold pf_f
  rw [hd]
  split
  · exact if_neg h2
  · rfl
theorem pf_3 {sb : Nat} {s : Nat × Nat × Int32} (h : pf_C B a) (hd : pf_d B a = some (P, z)) (h2 : pf_D B a sb s P) : pf_f B a sb s = some (pf_r B a s P, z) := by
  unfold pf_f
  rw [if_pos h, hd]
  exact if_pos h2
end
