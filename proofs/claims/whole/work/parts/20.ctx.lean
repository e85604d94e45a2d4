/-! what stays: tables, words, statics, texts -/
def mc_Z (B : Nat) (C n d : String) (v : Value) (U : State) (H : Heap) : Prop := ∃ (c : ClassId) (k : Class) (i : Nat) (f : Field) (a : Nat) (cell : Cell), U.vm.findClass C = some c ∧ U.fieldFound? C n d = some (c, k, i, f) ∧ f.isStatic = true ∧ k.init = .initialized ∧ k.statics = some a ∧ H[a]? = some cell ∧ cell.vm.isStatics = true ∧ cell.cls = c ∧ f.slot < cell.slots.size ∧ k.staticTypes[f.slot]? = some f.type ∧ cell.slots[f.slot]? = some v ∧ a < B
theorem mc_Z.moved {B : Nat} {C n d : String} {v : Value} {u U : State} {H : Heap} (hvm : u.vm.Alike U.vm) (h : mc_Z B C n d v u H) : mc_Z B C n d v U H := by
  obtain ⟨c, k, i, f, a, cell, h1, h2, h3, h4, h5, h6, h7, h8, h9, h10, h11⟩ := h
  obtain ⟨k', hi', he⟩ := State.fieldFound?_setVm hvm h2
  exact ⟨c, k', i, f, a, cell, by rw [hvm.findClass]; exact h1, hi', h3, by rw [he]; exact h4, by rw [he]; exact h5, h6, h7, h8, h9, by rw [he]; exact h10, h11⟩
theorem mc_Z.kept {B : Nat} {C n d : String} {v : Value} {U : State} {H H1 : Heap} (h : mc_Z B C n d v U H) (hq : ∀ q : Nat, q < B → H1[q]? = H[q]?) : mc_Z B C n d v U H1 := by
  obtain ⟨c, k, i, f, a, cell, h1, h2, h3, h4, h5, h6, h7⟩ := h
  exact ⟨c, k, i, f, a, cell, h1, h2, h3, h4, h5, by rw [hq a h7.2.2.2.2.2]; exact h6, h7⟩
theorem mc_Z.of {B : Nat} {C n d : String} {v : Value} {args : Array Value} {s : State} (hl : (Cond.laysStatic C n d).before args s = true) (hini : (Cond.initialized C).before args s = true) (hv : (Term.static C n d).eval args s none [] s = some v) (hB : s.heap.size ≤ B) : mc_Z B C n d v s s.heap := by
  obtain ⟨c, k, i, f, a, cell, hc, hi, hst, ha, hcell, hs, hcls, hlt, hty⟩ := Cond.laysStatic_spec hl
  obtain ⟨hst', a', cell', ha', hcell', -, hslot⟩ := Term.static_spec hi hv
  cases ha.symm.trans ha'
  cases hcell.symm.trans hcell'
  exact ⟨c, k, i, f, a, cell, hc, hi, hst, Cond.initialized_spec hc (State.fieldFound?_spec hi).1 hini, ha, hcell, hs, hcls, hlt, hty, hslot, Nat.lt_of_lt_of_le (Array.getElem?_eq_some_iff.mp hcell).1 hB⟩
theorem mc_Z.va {B : Nat} {C n d : String} {v : Value} {U : State} {H : Heap} (h : mc_Z B C n d v U H) : va_Z C n d v (mc_A B) U H := by
  obtain ⟨c, k, i, f, a, cell, h1, h2, h3, h4, h5, h6, h7, h8, h9, h10, h11, h12⟩ := h
  exact ⟨c, k, i, f, a, cell, h2, h3, h4, h5, h6, h7, h11, fun q => absurd q (Nat.not_le.mpr h12)⟩
theorem mc_Z.eval {B : Nat} {C n d : String} {v : Value} {U : State} (h : mc_Z B C n d v U U.heap) (args : Array Value) : (Term.static C n d).eval args U none [] U = some v := by
  obtain ⟨c, k, i, f, a, cell, h1, h2, h3, h4, h5, h6, h7, h8, h9, h10, h11, h12⟩ := h
  simp [Term.eval, State.fieldNamed?, h2, h3, h5, h6, h7, h11]
theorem mc_Z.lays {B : Nat} {C n d : String} {v : Value} {U : State} (h : mc_Z B C n d v U U.heap) (args : Array Value) : (Cond.laysStatic C n d).before args U = true := by
  obtain ⟨c, k, i, f, a, cell, h1, h2, h3, h4, h5, h6, h7, h8, h9, h10, h11, h12⟩ := h
  simp [Cond.before, Cond.holds, Cond.value, h1, h2, h3, h5, h6, h7, h8, h9, h10]
/-- texts of the class's exceptions -/
def pg_sr : List Nat := (pg_lk.filter fun q => Nat.beq q.2.2.1 12).map fun q => q.2.1
section
variable (D : va_G) (ra : Nat → Nat) (B : Nat) (v1 v2 : Value)
def mc_St (U : State) (H : Heap) : Prop :=
  va_K D pg_cl [] U ∧ (∀ w ∈ pg_ws, ∀ a, w.before a U = true) ∧ va_AO "PaletteReel$Frame" U ∧
  (∀ a, 2 ≤ a → a ≤ 4 → mc_Z B "PaletteReel" (pg_sn a) "[I" (.ref (ra a)) U H) ∧
  (mc_Z B "java/lang/Throwable" "UNASSIGNED_STACK" "[Ljava/lang/StackTraceElement;" v1 U H ∧ mc_Z B "java/lang/Throwable" "SUPPRESSED_SENTINEL" "Ljava/util/List;" v2 U H ∧ v1.isRef = true ∧ v2.isRef = true) ∧
  ∀ i ∈ pg_sr, ∃ q, vk_R "PaletteReel" i (pg_tx i) q U
end
section
variable {D : va_G} {ra : Nat → Nat} {B : Nat} {v1 v2 : Value}
theorem mc_St.warm {s U : State} {H H1 : Heap} (h : mc_St D ra B v1 v2 s H) (hW : s.WarmedH U.vm) (hq : ∀ q : Nat, q < B → H1[q]? = H[q]?) : mc_St D ra B v1 v2 U H1 := by
  obtain ⟨h1, h2, h3, h4, ⟨h5, h6, h7, h8⟩, h9⟩ := h
  refine ⟨va_K.moved hW.alike h1, fun w hw a => mc_warm (List.mem_filter.mp hw).2 hW (h2 w hw a), va_AO.moved hW.alike h3, fun a e1 e2 => ((h4 a e1 e2).moved hW.alike).kept hq, ⟨(h5.moved hW.alike).kept hq, (h6.moved hW.alike).kept hq, h7, h8⟩, fun i hi => ?_⟩
  obtain ⟨q, hv⟩ := h9 i hi
  exact ⟨q, hv.warm hW⟩
end
/-! ends of methods: with an answer, or by an exception -/
def mc_FE (st t : State) (L : List Loc) (k n : Nat) : Prop := st.WarmedH t.vm ∧ st.sameButNew ({ t with vm := st.vm } : State) L k n
section
variable (D : va_G) (ra : Nat → Nat) (B : Nat)
def mc_oc (out : mc_O) (o : Outcome) (t : State) : Prop := match out with
  | .inl v => o = .returned (v.map (mc_tv ra B))
  | .inr k => ∃ (x : Nat) (cell : Cell), o = .threw x ∧ t.heap[x]? = some cell ∧ cell.vm = .none ∧ t.vm.findClass (pg_ex k) = some cell.cls
def mc_Qc (Q : mc_Q) (s : State) (o : Outcome) (t : State) : Prop := ∃ (out : mc_O) (τ : mc_M), Q out τ ∧ mc_oc ra B out o t ∧ mc_Dy D ra B t τ t.heap ∧ va_F (mc_A B) s t
def mc_MQ (below : List Frame) (Q : mc_Q) (s : State) (mc ms : Nat) : State → Prop := fun t =>
  ∃ o, t.status = .running ∧ Ended t below o ∧ mc_Qc D ra B Q s o t ∧ ∃ L, mc_FE s t L mc ms ∧ ∀ q ∈ L, mc_A B q.base
end
theorem mc_Wweak {p : Program} {l : Launch} {e : Env} {R : Room} {s : State} {m : MethodId} {args : Array Value} {below : List Frame} {meth : Method} {c : Code} {H : Heap} {locs : List Loc} {cells slots : Nat} {Q Q' : State → Prop} {g : JFrame}
    (h : W p l e R s m args below meth c H locs cells slots Q g) (hq : ∀ t, Q t → Q' t) : W p l e R s m args below meth c H locs cells slots Q' g := fun T hT X => by
  obtain ⟨t, a, b⟩ := h T hT X
  exact ⟨t, a, hq t b⟩
theorem mc_MQ_of {D : va_G} {ra : Nat → Nat} {B : Nat} {below : List Frame} {Q : mc_Q} {s : State} {args : Array Value} {mc ms : Nat} {t : State} (h : MQ below (fun _ st o t => mc_Qc D ra B Q st o t) args s mc ms (mc_A B) t) : mc_MQ D ra B below Q s mc ms t := by
  obtain ⟨o, h1, h2, h3, L, ⟨-, h4, h5⟩, h6⟩ := h
  exact ⟨o, h1, h2, h3, L, ⟨h4, h5⟩, h6⟩
/-- a room for each method -/
def mc_rm (mi : Nat) : Room := { frames := (pg_rm mi).1, cells := (pg_cs mi).1, slots := (pg_cs mi).2, locals := (pg_rm mi).2 }
/-- a walk of the method mi -/
def mc_Cx (p : Program) (l : Launch) (s : State) (m : MethodId) (meth : Method) (c : Code) (mi : Nat) : Prop :=
  p.tables.exec = Jvm.exec ∧ c.code = pg_by mi ∧ c.maxLocals = pg_nl mi ∧ meth.sig.returnType = pg_rt mi ∧ s.vm.findClass (pg_cn (pg_oc mi)) = some m.cls ∧ meth.locks = false ∧ meth.name = (pg_y mi).name ∧ c.exceptionTable.toList.map (fun h => (h.startPc, h.endPc, h.handlerPc, h.catchType)) = pg_hs mi ∧ l.flags = flags0
/-- THE CLAIM of the small machine about the great one -/
def mc_Snd (D : va_G) (ra : Nat → Nat) (B : Nat) (v1 v2 : Value) (l : Launch) (x : mc_C) (Q : mc_Q) : Prop :=
  ∀ (p : Program) (e : Env) (s : State) (m : MethodId) (args : Array Value) (below : List Frame) (meth : Method) (c : Code) (H : Heap) (locs : List Loc) (ls : Array Slot),
    mc_Cx p l s m meth c x.1 → mc_St D ra B v1 v2 s s.heap → B ≤ s.heap.size → mc_lr ra B ls (pg_nl x.1) x.2.2.1 → mc_Dy D ra B s x.2.2.2.2.1 H → va_S (mc_A B) s.heap H locs →
    x.2.2.2.2.2.1 ≤ (pg_cs x.1).1 → x.2.2.2.2.2.2 ≤ (pg_cs x.1).2 →
    W p l e (mc_rm x.1) s m args below meth c H locs x.2.2.2.2.2.1 x.2.2.2.2.2.2 (mc_MQ D ra B below Q s (pg_cs x.1).1 (pg_cs x.1).2) (F0 m x.2.1 ls (mc_T ra B x.2.2.2.1))
