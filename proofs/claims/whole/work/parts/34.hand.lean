/-! a handler: the search for it (the clause's class is looked up, if it wasn't yet), and what the law's wrappers do there -/
theorem hn_one {e : Env} {S : State} {f : JFrame} {a : Addr} {cell : Cell} {x : ExceptionTableEntry} {t : List ExceptionTableEntry} {c : ClassId} {k1 k2 : Class} {b : Bool} {Q : Handler → Pre} {E : CtlPost} {d : Bool} {acts : List Action}
    (hx : covers x f.pc = true) (h0 : x.catchType ≠ 0) (hl : S.vm.ClassLinks e.platform f.method.cls x.catchType c) (hcell : S.heap[a]? = some cell) (hobj : ∀ k, cell.vm ≠ .statics k) (hk1 : S.vm.classes[cell.cls]? = some k1) (hk2 : S.vm.classes[c]? = some k2) (hb : S.vm.assignable cell.cls c = b) :
    Sem.wp (findHandler.go f a (x :: t)) Q E e d acts S ↔ (match b with
      | true => Q (.found x.handlerPc) d acts (S.setVm (S.vm.noted f.method.cls x.catchType (.cls c)))
      | false => Sem.wp (findHandler.go f a t) Q E e d acts (S.setVm (S.vm.noted f.method.cls x.catchType (.cls c)))) := by
  simp only [covers] at hx
  obtain ⟨ha, ht⟩ := (resolveClass_links e.toSetting hl).op (op := VmOp.resolveClass f.method.cls x.catchType) rfl
  have hal : S.vm.Alike (S.vm.noted f.method.cls x.catchType (.cls c)) := (Vm.Alike.refl S.vm).noted _ _ _
  obtain ⟨j1, hj1, -⟩ := hal.2.2 _ _ hk1
  obtain ⟨j2, hj2, -⟩ := hal.2.2 _ _ hk2
  have hfit : (S.vm.noted f.method.cls x.catchType (.cls c)).assignable cell.cls c = b := by rw [hal.assignable]; exact hb
  cases b <;> simp [findHandler.go, hx, h0, ha, ht, hcell, hobj, hj1, hj2, hfit, VmOp.dirties, VmOp.acts]
/-- each clause covers the place, names a class that is there; the first that fits is at h -/
def hn_R (pl : Platform) (s : State) (d pc : Nat) (th : ClassId) : List ExceptionTableEntry → Nat → Prop
  | [], _ => False
  | x :: t, h => covers x pc = true ∧ x.catchType ≠ 0 ∧ ∃ c, s.vm.ClassLinks pl d x.catchType c ∧ ((s.vm.assignable th c = true ∧ h = x.handlerPc) ∨ (s.vm.assignable th c = false ∧ hn_R pl s d pc th t h))
theorem hn_find {e : Env} {s : State} {f : JFrame} {a : Addr} {cell : Cell} {k0 : Class} (hobj : ∀ k, cell.vm ≠ .statics k) (hk0 : s.vm.classes[cell.cls]? = some k0) :
    ∀ (ts : List ExceptionTableEntry) (S : State) (h : Nat), s.WarmedH S.vm → S.heap[a]? = some cell → hn_R e.platform s f.method.cls f.pc cell.cls ts h → ∃ vm', s.WarmedH vm' ∧ ∀ (Q : Handler → Pre) (E : CtlPost) (d : Bool) (acts : List Action), Sem.wp (findHandler.go f a ts) Q E e d acts S ↔ Q (.found h) d acts (S.setVm vm')
  | [], _, _, _, _, hr => False.elim hr
  | x :: t, S, h, hW, hc, hr => by
    obtain ⟨hx, h0, c, hl, hr⟩ := hr
    obtain ⟨dk, _, _, kt, hd, _, _, _, _, hkt, _, hopen⟩ := hl.here
    obtain ⟨k1, hk1, -⟩ := hW.alike.2.2 _ _ hk0
    obtain ⟨k2, hk2, -⟩ := hW.alike.2.2 _ _ hkt
    have hW' : s.WarmedH (S.vm.noted f.method.cls x.catchType (.cls c)) := hW.noted hd hopen (State.rightAt_cls hl)
    rcases hr with ⟨hfit, rfl⟩ | ⟨hno, hr⟩
    · exact ⟨_, hW', fun Q E d acts => hn_one (b := true) hx h0 (hW.classLinks hl) hc hobj hk1 hk2 (by rw [hW.alike.assignable]; exact hfit)⟩
    · obtain ⟨vm', g1, g2⟩ := hn_find hobj hk0 t (S.setVm (S.vm.noted f.method.cls x.catchType (.cls c))) h hW' hc hr
      exact ⟨vm', g1, fun Q E d acts => (hn_one (b := false) hx h0 (hW.classLinks hl) hc hobj hk1 hk2 (by rw [hW.alike.assignable]; exact hno)).trans (g2 Q E d acts)⟩
section
variable {p : Program} {l : Launch} {e : Env} {R : Room} {s : State} {m : MethodId} {args : Array Value} {below : List Frame} {meth : Method} {c : Code} {locs : List Loc} {cells slots : Nat} {T : State}
/-- the walk goes on at the handler, the exception alone on the stack -/
theorem hn_to (X : Stand p l e R s m args below meth c T locs cells slots) (a : Addr) {g : JFrame} (hg : g.method = m) {cell : Cell} {k0 : Class} {h : Nat} (hcell : T.heap[a]? = some cell) (hobj : cell.vm = .none) (hk0 : s.vm.classes[cell.cls]? = some k0) (hr : hn_R e.platform s m.cls g.pc cell.cls c.exceptionTable.toList h) :
    ∃ vm', Stand p l e R s m args below meth c (T.setVm vm') locs cells slots ∧ ∀ target, Steps p.tables e below ((T.setVm vm').setTop { g with pc := h, stack := [.ref a] }) target → Steps p.tables e below ((T.setTop g).pushFrame (.throwing a)) target := by
  subst hg
  have hne : ∀ k, cell.vm ≠ .statics k := fun k q => by rw [hobj] at q; cases q
  obtain ⟨vm', hW', hf⟩ := hn_find (e := e) (s := s) (f := g) (a := a) hne hk0 c.exceptionTable.toList ((T.setTop g).pushFrame (.throwing a)) h X.warmed hcell hr
  have hm' : ((T.setTop g).pushFrame (.throwing a)).vm.method? g.method = some meth := X.method'
  refine ⟨vm', X.noted hW', fun target hrest => ?_⟩
  obtain ⟨hgo, hw⟩ := X.here.throwing a
  refine Steps.head hgo hw ?_
  have hstep : (stepThrowing e ((T.setTop g).pushFrame (.throwing a)) a (.java g :: T.frames.tail)).Is ((((T.setTop g).pushFrame (.throwing a)).setVm vm').setFrames (.java { g with pc := h, stack := [.ref a] } :: T.frames.tail)) [] := by
    simp only [stepThrowing, searchFrame, vmDo]
    generalize hres : Sem.go _ e false [] _ = res
    obtain ⟨as, rfl, ha⟩ := Sem.eq_ok_of hres (a := Handler.found h) (s' := ((T.setTop g).pushFrame (.throwing a)).setVm vm') (acts' := []) (by simp [W.findHandler_eq hm' X.code, hf _ _ _ _])
    exact ⟨rfl, ha⟩
  rw [stepThread_throwing (frames_entered X.here.top _), hstep.1]
  obtain ⟨g₀, hg0⟩ := Option.isSome_iff_exists.mp X.here.top
  obtain ⟨r, hr⟩ := State.topJava?_eq_some.mp hg0
  have hr' : (T.setVm vm').frames = .java g₀ :: r := hr
  rw [State.setTop_of_frames _ hr'] at hrest
  have key : (((T.setTop g).pushFrame (.throwing a)).setVm vm').setFrames (.java { g with pc := h, stack := [.ref a] } :: T.frames.tail) = (T.setVm vm').setFrames (.java { g with pc := h, stack := [.ref a] } :: r) := by
    rw [hr, List.tail_cons]
    have e1 : ∀ (u : State) (F : List Frame), (u.setFrames F).setVm vm' = (u.setVm vm').setFrames F := fun _ _ => rfl
    rw [State.pushFrame, e1, State.setFrames_setFrames, State.setTop_of_frames _ hr, e1, State.setFrames_setFrames]
  rw [key]
  exact hrest
end
/-! the wrappers' clauses -/
def hn_ct (k : Nat) : Nat := mc_nth [0, 13, 15, 25] k 0
def hn_no (k ct : Nat) : Bool := (Nat.beq k 2 && Nat.beq ct 13) || (Nat.beq k 3 && Nat.beq ct 15)
def hn_ck (k pc h : Nat) : List (Nat × Nat × Nat × Nat) → Bool
  | [] => false
  | x :: t => Nat.ble x.1 pc && Nat.blt pc x.2.1 && (match Nat.beq x.2.2.2 (hn_ct k) with
    | true => Nat.beq x.2.2.1 h
    | false => hn_no k x.2.2.2 && hn_ck k pc h t)
def hn_h (mi k : Nat) : Nat := match (pg_hs mi).filter (fun x => Nat.beq x.2.2.2 (hn_ct k)) with
  | x :: _ => x.2.2.1
  | [] => 0
def hn_inv (x : mc_E) : Bool := match x.2.1 with
  | .invokestatic _ => true
  | .invokevirtual _ => true
  | .invokespecial _ => true
  | _ => false
def hn_code (mi h : Nat) (c : Int32) : Bool := (match mc_from mi h with
  | (_, .astore i, 2, _) :: (_, .iconst k, 1, _) :: (_, .ireturn, 1, _) :: _ => Nat.blt i (pg_nl mi) && decide (Int32.ofInt k = c)
  | (_, .astore_n i, 1, _) :: (_, .iconst k, 1, _) :: (_, .ireturn, 1, _) :: _ => Nat.blt i.val (pg_nl mi) && decide (Int32.ofInt k = c)
  | _ => false) && decide (pg_rt mi = some .int) && Nat.beq (pg_oc mi) 12
def hn_ok (mi k : Nat) (c : Int32) : Bool := (pg_tb mi).all (fun x => !(hn_inv x) || hn_ck k x.1 (hn_h mi k) (pg_hs mi)) && hn_code mi (hn_h mi k) c && Nat.ble 1 k && Nat.ble k 3
theorem hn_oks : ∀ mi, mi < 206 → ∀ k, k < 4 → (match pg_hd mi 0 k with
  | none => true
  | some c => hn_ok mi k c) = true := by decide +kernel
theorem hn_wr : ∀ mi, mi < 206 → pg_wr mi = false → pg_hs mi = [] ∧ ∀ k, k < 4 → pg_hd mi 0 k = none := by decide +kernel
theorem hn_k4 {mi pc k : Nat} {c : Int32} (h : pg_hd mi pc k = some c) : k < 4 ∧ pg_hd mi 0 k = some c := by
  unfold pg_hd at h
  split at h <;> first | exact ⟨by decide, h⟩ | cases h
theorem hn_ok_of {mi pc k : Nat} {c : Int32} (hlt : mi < 206) (h : pg_hd mi pc k = some c) : hn_ok mi k c = true := by
  obtain ⟨h1, h2⟩ := hn_k4 h
  have h3 := hn_oks mi hlt k h1
  rw [h2] at h3
  exact h3
theorem hn_l1 : Cond.classLink "PaletteReelLaw" 13 "java/lang/IndexOutOfBoundsException" ∈ tables_1 := by decide +kernel
theorem hn_l2 : Cond.classLink "PaletteReelLaw" 15 "java/lang/IllegalArgumentException" ∈ tables_1 := by decide +kernel
theorem hn_l3 : Cond.classLink "PaletteReelLaw" 25 "java/lang/IllegalStateException" ∈ tables_1 := by decide +kernel
theorem hn_asg {vm : Vm} {c : ClassId} : vm.assignable c c = true := by
  show vm.assignableAux (255 + 1) c c = true
  rw [Vm.assignableAux, Bool.or_eq_true, beq_iff_eq]
  exact Or.inl rfl
theorem hn_Rs {pl : Platform} (hpl : pl.magicAccessors = ({} : Platform).magicAccessors) {s : State} {d : Nat} (hown : s.vm.findClass "PaletteReelLaw" = some d) (hw : ∀ w ∈ pg_ws, ∀ a, w.before a s = true) {k pc h : Nat} {th : ClassId} (h1 : 1 ≤ k) (h3 : k ≤ 3) (hth : s.vm.findClass (pg_ex k) = some th) :
    ∀ (ts : List ExceptionTableEntry), hn_ck k pc h (ts.map fun h => (h.startPc, h.endPc, h.handlerPc, h.catchType)) = true → hn_R pl s d pc th ts h
  | [], hc => by cases hc
  | x :: t, hc => by
    have hc' : (Nat.ble x.startPc pc && Nat.blt pc x.endPc && (match Nat.beq x.catchType (hn_ct k) with
      | true => Nat.beq x.handlerPc h
      | false => hn_no k x.catchType && hn_ck k pc h (t.map fun h => (h.startPc, h.endPc, h.handlerPc, h.catchType)))) = true := hc
    simp only [Bool.and_eq_true] at hc'
    obtain ⟨⟨c1, c2⟩, c3⟩ := hc'
    have hcov : covers x pc = true := by
      simp only [covers, Bool.and_eq_true, decide_eq_true_eq]
      exact ⟨Nat.le_of_ble_eq_true c1, Nat.le_of_ble_eq_true c2⟩
    cases hb : Nat.beq x.catchType (hn_ct k) with
    | true =>
      rw [hb] at c3
      have hct : x.catchType = hn_ct k := Nat.eq_of_beq_eq_true hb
      have hlw : (Cond.classLink "PaletteReelLaw" (hn_ct k) (pg_ex k)).before #[] s = true ∧ hn_ct k ≠ 0 := by
        match k, h1, h3 with
        | 1, _, _ => exact ⟨hw _ (pg_in rfl hn_l1) #[], by decide⟩
        | 2, _, _ => exact ⟨hw _ (pg_in rfl hn_l2) #[], by decide⟩
        | 3, _, _ => exact ⟨hw _ (pg_in rfl hn_l3) #[], by decide⟩
      obtain ⟨c', hc1, hcl⟩ := Cond.classLink_spec hown hlw.1 pl hpl
      cases hth.symm.trans hc1
      refine ⟨hcov, by rw [hct]; exact hlw.2, th, by rw [hct]; exact hcl, Or.inl ⟨hn_asg, (Nat.eq_of_beq_eq_true c3).symm⟩⟩
    | false =>
      rw [hb] at c3
      simp only [Bool.and_eq_true] at c3
      have ih := hn_Rs hpl hown hw h1 h3 hth t c3.2
      have hno := c3.1
      unfold hn_no at hno
      rw [Bool.or_eq_true, Bool.and_eq_true, Bool.and_eq_true] at hno
      rcases hno with ⟨n1, n2⟩ | ⟨n1, n2⟩
      · cases Nat.eq_of_beq_eq_true n1
        have hct : x.catchType = 13 := Nat.eq_of_beq_eq_true n2
        obtain ⟨c', hc1, hcl⟩ := Cond.classLink_spec hown (hw _ (pg_in rfl hn_l1) #[]) pl hpl
        have hv := Cond.holds_not_iff.mp (hw _ (pg_inN rfl (List.mem_cons_self : _ ∈ pg_nc)) #[])
        have hth' : s.vm.findClass "java/lang/IllegalArgumentException" = some th := hth
        simp only [Cond.value, hth', hc1] at hv
        exact ⟨hcov, by rw [hct]; decide, c', by rw [hct]; exact hcl, Or.inr ⟨Option.some.inj hv, ih⟩⟩
      · cases Nat.eq_of_beq_eq_true n1
        have hct : x.catchType = 15 := Nat.eq_of_beq_eq_true n2
        obtain ⟨c', hc1, hcl⟩ := Cond.classLink_spec hown (hw _ (pg_in rfl hn_l2) #[]) pl hpl
        have hv := Cond.holds_not_iff.mp (hw _ (pg_inN rfl (List.mem_cons_of_mem _ List.mem_cons_self : _ ∈ pg_nc)) #[])
        have hth' : s.vm.findClass "java/lang/IllegalStateException" = some th := hth
        simp only [Cond.value, hth', hc1] at hv
        exact ⟨hcov, by rw [hct]; decide, c', by rw [hct]; exact hcl, Or.inr ⟨Option.some.inj hv, ih⟩⟩
section
variable {p : Program} {l : Launch} {e : Env} {s : State} {m : MethodId} {args : Array Value} {below : List Frame} {meth : Method} {c : Code} {locs : List Loc} {c1 c2 : Nat} {T : State}
variable {D : va_G} {ra : Nat → Nat} {B : Nat} {v1 v2 : Value} {ls : Array Slot} {mi k xa : Nat} {st L : List Value} {τ : mc_M} {Q : mc_Q} {cell : Cell}
/-- at the handler: the exception is put away, a number is given back -/
theorem hn_body {h : Nat} {cc : Int32} (hcd : hn_code mi h cc = true) (Cx : mc_Cx p l s m meth c mi) (hl : mc_lr ra B ls (pg_nl mi) L) (hD : mc_Dy D ra B s τ T.heap) (hS : va_S (mc_A B) s.heap T.heap locs) (h1 : c1 ≤ (pg_cs mi).1) (h2 : c2 ≤ (pg_cs mi).2) (hQ : Q (.inl (some (.int cc))) τ) :
    W p l e (mc_rm mi) s m args below meth c T.heap locs c1 c2 (mc_MQ D ra B below Q s (pg_cs mi).1 (pg_cs mi).2) (F0 m h ls [.ref xa]) := by
  unfold hn_code at hcd
  simp only [Bool.and_eq_true, decide_eq_true_eq] at hcd
  obtain ⟨⟨hcd, hrt⟩, -⟩ := hcd
  have fin : ∀ (e1 e2 e3 : mc_E) (r : List mc_E) (k : Int), mc_from mi h = e1 :: e2 :: e3 :: r → e2.2.1 = .iconst k → e2.2.2.1 = 1 → e3.2.1 = .ireturn → e3.2.2.1 = 1 → Int32.ofInt k = cc → e1.1 = h ∧ decode (pg_by mi) e1.1 = .ok (e1.2.1, e1.2.2.1) ∧ ∀ ls', W p l e (mc_rm mi) s m args below meth c T.heap locs c1 c2 (mc_MQ D ra B below Q s (pg_cs mi).1 (pg_cs mi).2) (F0 m (h + e1.2.2.1) ls' []) := by
    intro e1 e2 e3 r k hf q1 q2 q3 q4 q5
    obtain ⟨g1, pre, g2⟩ := mc_from_split hf
    have ha := mc_adjs mi
    have n1 : e1.1 + e1.2.2.1 = e2.1 := mc_adj_next pre e1 e2 (e3 :: r) (by rw [← g2]; exact ha)
    have n2 : e2.1 + e2.2.2.1 = e3.1 := mc_adj_next (pre ++ [e1]) e2 e3 r (by rw [List.append_assoc]; show mc_adj (pre ++ e1 :: e2 :: e3 :: r) = true; rw [← g2]; exact ha)
    have d1 : decode (pg_by mi) e1.1 = _ := en_dec (by rw [g2]; simp)
    have d2 : decode (pg_by mi) e2.1 = _ := en_dec (by rw [g2]; simp)
    have d3 : decode (pg_by mi) e3.1 = _ := en_dec (by rw [g2]; simp)
    rw [q1, q2] at d2
    rw [q3, q4] at d3
    refine ⟨g1, d1, fun ls' => ?_⟩
    have e2h : h + e1.2.2.1 = e2.1 := by rw [← g1]; exact n1
    rw [e2h]
    refine lv_iconst Cx.1 Cx.2.1 d2 q5 ?_
    have e3h : e2.1 + 1 = e3.1 := by rw [← n2, q2]
    rw [e3h]
    exact ct_iret (u := (c1, c2)) Cx d3 (Or.inl hrt) hD hS h1 h2 hQ
  split at hcd
  · rename_i i _ _ k _ _ _ heq
    simp only [Bool.and_eq_true, decide_eq_true_eq] at hcd
    obtain ⟨g1, g2, g3⟩ := fin _ _ _ _ _ heq rfl rfl rfl rfl hcd.2
    dsimp only at g1 g2 g3
    rw [g1] at g2
    exact lv_astore Cx.1 Cx.2.1 g2 hl.has (Nat.le_of_ble_eq_true hcd.1) rfl (fun ls' _ => g3 ls')
  · rename_i i _ _ k _ _ _ heq
    simp only [Bool.and_eq_true, decide_eq_true_eq] at hcd
    obtain ⟨g1, g2, g3⟩ := fin _ _ _ _ _ heq rfl rfl rfl rfl hcd.2
    dsimp only at g1 g2 g3
    rw [g1] at g2
    exact lv_astore_n Cx.1 Cx.2.1 g2 rfl hl.has (Nat.le_of_ble_eq_true hcd.1) rfl (fun ls' _ => g3 ls')
  · cases hcd
/-- what an exception does that a call has given: it goes on, or a handler of the law's wrappers takes it -/
theorem ct_thrown {x : mc_E} (hm : x ∈ pg_tb mi) (hinv : hn_inv x = true) (Cx : mc_Cx p l s m meth c mi) (St : mc_St D ra B v1 v2 s s.heap) (hl : mc_lr ra B ls (pg_nl mi) L) (ho : mc_out mi (pg_hd mi x.1 k) Q k τ) (h1 : c1 ≤ (pg_cs mi).1) (h2 : c2 ≤ (pg_cs mi).2) (X : Stand p l e (mc_rm mi) s m args below meth c T locs c1 c2) (hD : mc_Dy D ra B s τ T.heap) (hS : va_S (mc_A B) s.heap T.heap locs) (hc1 : T.heap[xa]? = some cell) (hc2 : cell.vm = .none) (hc3 : s.vm.findClass (pg_ex k) = some cell.cls) :
    ∃ t, Steps p.tables e below ((T.setTop (F0 m x.1 ls st)).pushFrame (.throwing xa)) t ∧ mc_MQ D ra B below Q s (pg_cs mi).1 (pg_cs mi).2 t := by
  have hlt := mi_lt hm
  unfold mc_out at ho
  cases hh : pg_hd mi x.1 k with
  | none =>
    rw [hh] at ho
    dsimp only at ho
    split at ho
    · rename_i hwr
      exact ct_leave (hn_wr mi hlt hwr).1 Cx X hD hS hc1 hc2 hc3 h1 h2 ho
    · cases ho
  | some cc =>
    rw [hh] at ho
    have hok := hn_ok_of hlt hh
    unfold hn_ok at hok
    simp only [Bool.and_eq_true] at hok
    obtain ⟨⟨⟨g1, g2⟩, g3⟩, g4⟩ := hok
    have hck : hn_ck k x.1 (hn_h mi k) (pg_hs mi) = true := by
      have := List.all_eq_true.mp g1 x hm
      rw [hinv] at this
      exact this
    have hoc : pg_oc mi = 12 := by
      unfold hn_code at g2
      simp only [Bool.and_eq_true] at g2
      exact Nat.eq_of_beq_eq_true g2.2
    have hown : s.vm.findClass "PaletteReelLaw" = some m.cls := by
      have := Cx.2.2.2.2.1
      rw [hoc] at this
      exact this
    have hpl : e.platform.magicAccessors = ({} : Platform).magicAccessors := by rw [X.admits.platform]
    obtain ⟨k0, hk0⟩ := Vm.classAt_of_findClass hc3
    have hR : hn_R e.platform s m.cls (F0 m x.1 ls st).pc cell.cls c.exceptionTable.toList (hn_h mi k) := hn_Rs hpl hown St.2.1 (Nat.le_of_ble_eq_true g3) (Nat.le_of_ble_eq_true g4) hc3 _ (by rw [Cx.2.2.2.2.2.2.2.1]; exact hck)
    obtain ⟨vm', X', hst⟩ := hn_to X xa (g := F0 m x.1 ls st) rfl hc1 hc2 hk0 hR
    obtain ⟨t, t1, t2⟩ := hn_body (T := T) (xa := xa) (e := e) (args := args) (below := below) g2 Cx hl hD hS h1 h2 ho (T.setVm vm') rfl X'
    exact ⟨t, hst t t1, t2⟩
end
