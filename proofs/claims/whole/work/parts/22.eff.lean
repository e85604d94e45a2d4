theorem lk_of {a i k x : Nat} (h : lk_has a i k x = true) : ∃ p, tables_1[p]? = some (pg_lw (a, i, k, x, p)) := by
  unfold lk_has at h
  obtain ⟨⟨q1, q2, q3, q4, q5⟩, hq, hb⟩ := List.any_eq_true.mp h
  simp only [Bool.and_eq_true] at hb
  obtain ⟨⟨⟨e1, e2⟩, e3⟩, e4⟩ := hb
  cases Nat.eq_of_beq_eq_true e1
  cases Nat.eq_of_beq_eq_true e2
  cases Nat.eq_of_beq_eq_true e3
  cases Nat.eq_of_beq_eq_true e4
  exact ⟨q5, pg_lk_tab _ hq⟩
theorem pg_lwp (a i k x p p' : Nat) : pg_lw (a, i, k, x, p) = pg_lw (a, i, k, x, p') := rfl
theorem lk_in {a i k x : Nat} (h : lk_has a i k x = true) : pg_lw (a, i, k, x, 0) ∈ tables_1 := by
  obtain ⟨p, hp⟩ := lk_of h
  exact List.mem_of_getElem? (i := p) hp
theorem fl_of {a i ci k : Nat} {r : vw_C} (h : fl_has a i ci k = true) (hr : pg_cl[ci]? = some r) {s : State} {args : Array Value} (hw : ∀ w ∈ pg_ws, ∀ a, w.before a s = true) : mc_FL s args (pg_cn a) i r k := by
  unfold fl_has at h
  obtain ⟨⟨q1, q2, q3, q4, q5, q6⟩, hq, hb⟩ := List.any_eq_true.mp h
  simp only [Bool.and_eq_true] at hb
  obtain ⟨⟨⟨e1, e2⟩, e3⟩, e4⟩ := hb
  cases Nat.eq_of_beq_eq_true e1
  cases Nat.eq_of_beq_eq_true e2
  cases Nat.eq_of_beq_eq_true e3
  cases Nat.eq_of_beq_eq_true e4
  have ht := List.mem_of_getElem? (pg_fl_tab _ hq)
  unfold pg_fw at ht
  rw [hr] at ht
  cases q5 with
  | zero => exact Or.inl (hw _ (pg_in rfl ht) args)
  | succ n => exact Or.inr (hw _ (pg_in rfl ht) args)
theorem fl_ow {a i ci k : Nat} {r : vw_C} (h : fl_own a i ci k = true) (hr : pg_cl[ci]? = some r) {s : State} {args : Array Value} (hw : ∀ w ∈ pg_ws, ∀ a, w.before a s = true) : (Cond.fieldLink (pg_cn a) i r.1 (r.2.1 k).2.1 (r.2.1 k).2.2.1).before args s = true := by
  unfold fl_own at h
  obtain ⟨⟨q1, q2, q3, q4, q5, q6⟩, hq, hb⟩ := List.any_eq_true.mp h
  simp only [Bool.and_eq_true] at hb
  obtain ⟨⟨⟨⟨e1, e2⟩, e3⟩, e4⟩, e5⟩ := hb
  cases Nat.eq_of_beq_eq_true e1
  cases Nat.eq_of_beq_eq_true e2
  cases Nat.eq_of_beq_eq_true e3
  cases Nat.eq_of_beq_eq_true e4
  cases Nat.eq_of_beq_eq_true e5
  have ht := List.mem_of_getElem? (pg_fl_tab _ hq)
  unfold pg_fw at ht
  rw [hr] at ht
  exact hw _ (pg_in rfl ht) args
theorem cl_at {ci : Nat} (h : ci < 12) : ∃ r, pg_cl[ci]? = some r ∧ r.2.2 = pg_nf ci ∧ r.1 = pg_cn ci := by
  match ci, h with
  | 0, _ => exact ⟨_, rfl, rfl, rfl⟩
  | 1, _ => exact ⟨_, rfl, rfl, rfl⟩
  | 2, _ => exact ⟨_, rfl, rfl, rfl⟩
  | 3, _ => exact ⟨_, rfl, rfl, rfl⟩
  | 4, _ => exact ⟨_, rfl, rfl, rfl⟩
  | 5, _ => exact ⟨_, rfl, rfl, rfl⟩
  | 6, _ => exact ⟨_, rfl, rfl, rfl⟩
  | 7, _ => exact ⟨_, rfl, rfl, rfl⟩
  | 8, _ => exact ⟨_, rfl, rfl, rfl⟩
  | 9, _ => exact ⟨_, rfl, rfl, rfl⟩
  | 10, _ => exact ⟨_, rfl, rfl, rfl⟩
  | 11, _ => exact ⟨_, rfl, rfl, rfl⟩
theorem rm_ok {mi f l : Nat} (h : ck_room mi f l = true) : f ≤ (mc_rm mi).frames ∧ l ≤ (mc_rm mi).locals := by
  unfold ck_room at h
  rw [Bool.and_eq_true] at h
  exact ⟨Nat.le_of_ble_eq_true h.1, Nat.le_of_ble_eq_true h.2⟩
section
variable {p : Program} {l : Launch} {e : Env} {s : State} {m : MethodId} {args : Array Value} {below : List Frame} {meth : Method} {c : Code} {H : Heap} {locs : List Loc} {Q : State → Prop}
variable {D : va_G} {ra : Nat → Nat} {B : Nat} {v1 v2 : Value} {ls : Array Slot} {mi pc n X Y Z : Nat} {L st L' st' : List Value} {σ σ' : mc_M} {u u' : mc_U} {o : Option Prop}
/-- what a step's goes on is -/
abbrev mc_KK (p : Program) (l : Launch) (e : Env) (s : State) (m : MethodId) (args : Array Value) (below : List Frame) (meth : Method) (c : Code) (Q : State → Prop) (D : va_G) (ra : Nat → Nat) (B mi pc : Nat) (L st : List Value) (σ : mc_M) (u : mc_U) : Prop :=
  ∀ (H1 : Heap) (locs1 : List Loc) (ls1 : Array Slot), mc_lr ra B ls1 (pg_nl mi) L → mc_Dy D ra B s σ H1 → va_S (mc_A B) s.heap H1 locs1 → u.1 ≤ (pg_cs mi).1 → u.2 ≤ (pg_cs mi).2 → W p l e (mc_rm mi) s m args below meth c H1 locs1 u.1 u.2 Q (F0 m pc ls1 (mc_T ra B st))
theorem es_getfield {i : Nat} (hn : ck_n mi (pc, .getfield i, n, X, Y, Z) = true) (hd : decode (pg_by mi) pc = .ok (.getfield i, n)) (h : mc_eff (pg_cs mi) (pc, .getfield i, n, X, Y, Z) L st σ u = some (o, L', st', σ', u')) (ho : ∀ O, o = some O → O)
    (Cx : mc_Cx p l s m meth c mi) (St : mc_St D ra B v1 v2 s s.heap) (hl : mc_lr ra B ls (pg_nl mi) L) (hD : mc_Dy D ra B s σ H) (hS : va_S (mc_A B) s.heap H locs) (hu1 : u.1 ≤ (pg_cs mi).1) (hu2 : u.2 ≤ (pg_cs mi).2)
    (kk : mc_KK p l e s m args below meth c Q D ra B mi (pc + n) L' st' σ' u') : W p l e (mc_rm mi) s m args below meth c H locs u.1 u.2 Q (F0 m pc ls (mc_T ra B st)) := by
  replace hn : (Nat.beq n 3 && fl_has (pg_oc mi) i X Y && Nat.beq (pg_fk X Y) Z && Nat.blt Y (pg_nf X) && Nat.blt X 12) = true := hn
  simp only [Bool.and_eq_true] at hn
  obtain ⟨⟨⟨⟨hn, hf⟩, hk⟩, hY⟩, hX⟩ := hn
  cases Nat.eq_of_beq_eq_true hn
  have hk := Nat.eq_of_beq_eq_true hk
  obtain ⟨r, hr, hrn, -⟩ := cl_at (Nat.le_of_ble_eq_true hX)
  have hYr : Y < r.2.2 := by rw [hrn]; exact Nat.le_of_ble_eq_true hY
  obtain ⟨a, rr, rfl, hh⟩ := mc_get_inv (x := X) (y := Y) (z := Z) h
  have hlink := fl_of (args := args) hf hr St.2.1
  rcases hh with ⟨hz, hR⟩ | ⟨hz, hR⟩ <;> cases hR
  · obtain ⟨hs, h0⟩ := ho _ rfl
    obtain ⟨r', hr', hob⟩ := (hD.1 a).1 (by rw [hs])
    rw [hs] at hr' hob
    cases hr.symm.trans hr'
    refine mc_getf Cx.1 Cx.2.1 Cx.2.2.2.2.1 St.1 St.2.1 hr hYr hlink hob hd ?_
    have := kk H locs ls hl hD hS hu1 hu2
    unfold mc_fv mc_rf
    rw [if_pos (hk.trans hz), if_neg h0]
    exact this
  · have hs := ho _ rfl
    obtain ⟨r', hr', hob⟩ := (hD.1 a).1 (by rw [hs])
    rw [hs] at hr' hob
    cases hr.symm.trans hr'
    refine mc_getf Cx.1 Cx.2.1 Cx.2.2.2.2.1 St.1 St.2.1 hr hYr hlink hob hd ?_
    have := kk H locs ls hl hD hS hu1 hu2
    unfold mc_fv
    rw [if_neg (fun q => hz (hk.symm.trans q))]
    exact this
theorem es_putfield {i : Nat} (hn : ck_n mi (pc, .putfield i, n, X, Y, Z) = true) (hmi : pg_kd mi = 2 → (pg_y mi).name = "<init>") (hd : decode (pg_by mi) pc = .ok (.putfield i, n)) (h : mc_eff (pg_cs mi) (pc, .putfield i, n, X, Y, Z) L st σ u = some (o, L', st', σ', u')) (ho : ∀ O, o = some O → O)
    (Cx : mc_Cx p l s m meth c mi) (St : mc_St D ra B v1 v2 s s.heap) (hl : mc_lr ra B ls (pg_nl mi) L) (hD : mc_Dy D ra B s σ H) (hS : va_S (mc_A B) s.heap H locs) (hu1 : u.1 ≤ (pg_cs mi).1) (hu2 : u.2 ≤ (pg_cs mi).2)
    (kk : mc_KK p l e s m args below meth c Q D ra B mi (pc + n) L' st' σ' u') : W p l e (mc_rm mi) s m args below meth c H locs u.1 u.2 Q (F0 m pc ls (mc_T ra B st)) := by
  replace hn : (Nat.beq n 3 && fl_has (pg_oc mi) i X Y && Nat.beq (pg_fk X Y) Z && Nat.blt Y (pg_nf X) && Nat.blt X 12 && (!(pg_fin X Y) || (Nat.beq (pg_kd mi) 2 && Nat.beq (pg_oc mi) X && fl_own (pg_oc mi) i X Y))) = true := hn
  simp only [Bool.and_eq_true] at hn
  obtain ⟨⟨⟨⟨⟨hn, hf⟩, hk⟩, hY⟩, hX⟩, hfin⟩ := hn
  cases Nat.eq_of_beq_eq_true hn
  have hk := Nat.eq_of_beq_eq_true hk
  obtain ⟨r, hr, hrn, hrc⟩ := cl_at (Nat.le_of_ble_eq_true hX)
  have hYr : Y < r.2.2 := by rw [hrn]; exact Nat.le_of_ble_eq_true hY
  have hlink := fl_of (args := args) hf hr St.2.1
  have hfi : (r.2.1 Y).2.2.2 = true → meth.name = "<init>" ∧ pg_cn (pg_oc mi) = r.1 ∧ (Cond.fieldLink (pg_cn (pg_oc mi)) i r.1 (r.2.1 Y).2.1 (r.2.1 Y).2.2.1).before args s = true := by
    intro q
    have q1 : pg_fin X Y = true := by unfold pg_fin; rw [hr]; exact q
    rw [q1, Bool.not_true, Bool.false_or, Bool.and_eq_true, Bool.and_eq_true] at hfin
    refine ⟨Cx.2.2.2.2.2.2.1.trans (hmi (Nat.eq_of_beq_eq_true hfin.1.1)), ?_, fl_ow hfin.2 hr St.2.1⟩
    rw [Nat.eq_of_beq_eq_true hfin.1.2]
    exact hrc.symm
  have hdec := pg_decs hr Y hYr
  rcases mc_putf_inv (x := X) (y := Y) (z := Z) h with ⟨v, a, rr, hz, rfl, hR⟩ | ⟨v, a, rr, hz, rfl, hR⟩ | ⟨v, a, rr, hz, rfl, hR⟩ <;> cases hR
  · have hs := ho _ rfl
    obtain ⟨r', hr', hob⟩ := (hD.1 a).1 (by rw [hs])
    rw [hs] at hr' hob
    cases hr.symm.trans hr'
    have h10 := hD.ten hs
    refine mc_putv Cx.1 Cx.2.1 Cx.2.2.2.2.1 St.1 St.2.1 hr hYr hlink hfi (v := .int v) (by rw [hdec.2.2.2.2 (by omega) (by omega)]; exact mc_nar_int) hob hd (fun H1 j e1 e2 e3 => ?_)
    exact kk H1 _ ls hl (hD.putI h10 hs hr (by omega) e1 e2 e3) (hS.put e2 e3 (mc_ad_ge h10)) hu1 hu2
  · obtain ⟨hs, hv⟩ := ho _ rfl
    obtain ⟨r', hr', hob⟩ := (hD.1 a).1 (by rw [hs])
    rw [hs] at hr' hob
    cases hr.symm.trans hr'
    have h10 := hD.ten hs
    refine mc_putv Cx.1 Cx.2.1 Cx.2.2.2.2.1 St.1 St.2.1 hr hYr hlink hfi (v := .int v) (by rw [hdec.2.2.2.1 (by omega)]; exact mc_nar_bool hv) hob hd (fun H1 j e1 e2 e3 => ?_)
    exact kk H1 _ ls hl (hD.putI h10 hs hr (by omega) e1 e2 e3) (hS.put e2 e3 (mc_ad_ge h10)) hu1 hu2
  · obtain ⟨hs, hv⟩ := ho _ rfl
    obtain ⟨r', hr', hob⟩ := (hD.1 a).1 (by rw [hs])
    rw [hs] at hr' hob
    cases hr.symm.trans hr'
    have h10 := hD.ten hs
    refine mc_putv Cx.1 Cx.2.1 Cx.2.2.2.2.1 St.1 St.2.1 hr hYr hlink hfi (v := .ref (mc_ad ra B v)) (mc_nar_ref (hdec.2.2.1 (by omega))) hob hd (fun H1 j e1 e2 e3 => ?_)
    exact kk H1 _ ls hl (hD.putP h10 hs hr (by omega) hv e1 e2 e3) (hS.put e2 e3 (mc_ad_ge h10)) hu1 hu2
end
