/-! a method's contract out of the small machine's -/
theorem mc_code_spec {mi : Nat} {a : Array Value} {s : State} {m : MethodId} (hn : s.methodNamed? (pg_y mi) = some m) (h : (pg_cw mi).before a s = true) :
    ∃ meth c, s.vm.method? m = some meth ∧ meth.code = some c ∧ c.code = pg_by mi ∧ c.maxLocals = pg_nl mi ∧ meth.sig.returnType = pg_rt mi ∧ meth.locks = false ∧ c.exceptionTable.toList.map (fun h => (h.startPc, h.endPc, h.handlerPc, h.catchType)) = pg_hs mi ∧ parseMethodDescriptor (pg_y mi).desc = some meth.sig := by
  unfold pg_cw at h
  cases hh : pg_hs mi with
  | nil =>
    rw [hh] at h
    obtain ⟨meth, c, h1, h2, h3, h4, h5, h6, h7, h8⟩ := Cond.code_spec hn h
    refine ⟨meth, c, h1, h2, h3, h4, h5, h6, ?_, h8⟩
    rw [List.map_eq_nil_iff]
    simpa [Array.isEmpty] using h7
  | cons x r =>
    rw [hh] at h
    obtain ⟨m', meth, c, h0, h1, h2, h3, h4, h5, h6, h7, h8⟩ := Cond.codeWith_spec h
    cases hn.symm.trans h0
    exact ⟨meth, c, h1, h2, h3, h4, h6, h7, h5, h8⟩
theorem mc_lay_sl {ra : Nat → Nat} {B : Nat} : ∀ (args : List Value), (args.all mc_val = true) → (lg_sl (mc_T ra B args)).length = (mc_lay args).length ∧ ∀ i, mc_at (mc_lay args) i ≠ .null → (lg_sl (mc_T ra B args))[i]? = some (.val (mc_tv ra B (mc_at (mc_lay args) i)))
  | [], _ => ⟨rfl, fun i h => absurd rfl h⟩
  | v :: r, h => by
    rw [List.all_cons, Bool.and_eq_true] at h
    obtain ⟨i1, i2⟩ := mc_lay_sl (ra := ra) (B := B) r h.2
    have one : ∀ w : Value, mc_lay (v :: r) = w :: mc_lay r → lg_sl (mc_T ra B (v :: r)) = .val (mc_tv ra B w) :: lg_sl (mc_T ra B r) → (lg_sl (mc_T ra B (v :: r))).length = (mc_lay (v :: r)).length ∧ ∀ i, mc_at (mc_lay (v :: r)) i ≠ .null → (lg_sl (mc_T ra B (v :: r)))[i]? = some (.val (mc_tv ra B (mc_at (mc_lay (v :: r)) i))) := by
      intro w e1 e2
      rw [e1, e2]
      refine ⟨by simp [i1], fun i hi => ?_⟩
      cases i with
      | zero => rfl
      | succ i => exact i2 i hi
    cases v with
    | int x => exact one (.int x) rfl rfl
    | ref x => exact one (.ref x) rfl rfl
    | long x =>
      have e1 : mc_lay (.long x :: r) = .long x :: .null :: mc_lay r := rfl
      have e2 : lg_sl (mc_T ra B (.long x :: r)) = .val (.long x) :: .second :: lg_sl (mc_T ra B r) := rfl
      rw [e1, e2]
      refine ⟨by simp [i1], fun i hi => ?_⟩
      match i, hi with
      | 0, _ => rfl
      | 1, hi => exact absurd rfl hi
      | i + 2, hi => exact i2 i hi
    | _ => cases h.1
theorem mc_at_pad : ∀ (l : List Value) (n i : Nat), l.length ≤ n → mc_at (mc_pad l n) i = mc_at l i
  | [], 0, _, _ => rfl
  | [], n + 1, 0, _ => rfl
  | [], n + 1, i + 1, _ => by
    show mc_at (mc_pad [] n) i = .null
    rw [mc_at_pad [] n i (Nat.zero_le _)]
    cases i <;> rfl
  | _ :: _, 0, _, h => absurd h (by simp)
  | v :: r, n + 1, 0, _ => rfl
  | v :: r, n + 1, i + 1, h => mc_at_pad r n i (Nat.le_of_succ_le_succ h)
theorem mc_lr_entry {ra : Nat → Nat} {B : Nat} {args : List Value} {n : Nat} (ha : args.all mc_val = true) (hn : (mc_lay args).length ≤ n) : mc_lr ra B ((lg_sl (mc_T ra B args) ++ List.replicate (n - (lg_sl (mc_T ra B args)).length) Slot.unset).toArray) n (mc_pad (mc_lay args) n) := by
  obtain ⟨h1, h2⟩ := mc_lay_sl (ra := ra) (B := B) args ha
  have hv := lv_entry (mc_T ra B args) (n := n) (by rw [h1]; exact hn)
  refine ⟨hv.1, hv.2.1, fun i v hi hne => ?_⟩
  rw [mc_at_pad _ _ _ hn] at hi
  subst hi
  have h3 := h2 i hne
  rw [List.getElem?_toArray, List.getElem?_append_left (List.getElem?_eq_some_iff.mp h3).1]
  exact h3
section
variable (D : va_G) (ra : Nat → Nat) (B : Nat) (v1 v2 : Value)
def mc_Pc (args : List Value) (σ : mc_M) : Array Value → State → Prop := fun a U => a = (mc_T ra B args).toArray ∧ mc_St D ra B v1 v2 U U.heap ∧ mc_Dy D ra B U σ U.heap ∧ B ≤ U.heap.size
end
theorem mc_met {D : va_G} {ra : Nat → Nat} {B : Nat} {v1 v2 : Value} {l : Launch} {mi : Nat} {args : List Value} {σ : mc_M} {Q : mc_Q} (hlt : mi < 206) (hfl : l.flags = flags0) (ha : args.all mc_val = true) (hn : (mc_lay args).length ≤ pg_nl mi) (hS : mc_Snd D ra B v1 v2 l (mc_en mi args σ) Q) :
    MetFree l (pg_y mi) (headSpec [pg_cw mi] (mc_rm mi)) (mc_Pc D ra B v1 v2 args σ) (fun _ _ _ _ _ => True) (fun _ st o t => mc_Qc D ra B Q st o t ∧ ∃ L, mc_FE st t L (pg_cs mi).1 (pg_cs mi).2 ∧ ∀ q ∈ L, mc_A B q.base) := by
  have hcl := pg_cls mi hlt
  refine MetFree.of_bodyS (code := pg_by mi) (maxLocals := pg_nl mi) (ret := pg_rt mi) hcl.2.2.2.1 ?_ ?_
  · intro args s m h hnm
    obtain ⟨meth, c, h1, h2, h3, h4, h5, h6, -, -⟩ := mc_code_spec hnm (atoms_spec (ws := [pg_cw mi]) h _ List.mem_cons_self)
    exact ⟨meth, c, h1, h2, h3, h4, h5, h6⟩
  · intro p e s m a below meth c s₁ Bd hml hP _
    obtain ⟨rfl, hst, hdy, hb⟩ := hP
    obtain ⟨meth', c', g1, g2, -, -, -, -, g7, -⟩ := mc_code_spec Bd.named (atoms_spec (ws := [pg_cw mi]) Bd.pre _ List.mem_cons_self)
    cases Bd.method.symm.trans g1
    cases (Stand.of_body Bd).code.symm.trans g2
    have hown : s.vm.findClass (pg_cn (pg_oc mi)) = some m.cls := by rw [← hcl.1]; exact findClass_of_methodNamed Bd.named
    have hw := hS p e s m (mc_T ra B args).toArray below meth c s.heap [] _ ⟨Bd.exec, Bd.bytes, hml, Bd.returns, hown, Bd.notSynchronized, (name_of_methodNamed Bd.named Bd.method).1, g7, hfl⟩ hst hb (mc_lr_entry ha hn) hdy va_S.rf (Nat.zero_le _) (Nat.zero_le _)
    have hh0 : s₁.heap = s.heap := by rw [Bd.state]; rfl
    obtain ⟨t, a1, o, b1, b2, b3, L, b4, b5⟩ := hw s₁ hh0 (Stand.of_body Bd)
    refine ⟨t, o, ?_, b1, b2, b3, L, b4, b5⟩
    rw [lg_entry_eq]
    exact a1
