/-! a throw -/
def th_ic (k : Nat) : Nat := mc_nth [0, 116, 87, 263] k 0
theorem th_ics : ∀ q ∈ pg_lk, q.2.2.1 = 3 → q.1 = 0 ∧ q.2.1 = th_ic q.2.2.2.1 ∧ 1 ≤ q.2.2.2.1 ∧ q.2.2.2.1 ≤ 3 := by decide +kernel
theorem th_lk {o i k : Nat} (h : lk_has o i 3 k = true) : i = th_ic k := by
  unfold lk_has at h
  obtain ⟨⟨q1, q2, q3, q4, q5⟩, hq, hb⟩ := List.any_eq_true.mp h
  simp only [Bool.and_eq_true] at hb
  obtain ⟨⟨⟨e1, e2⟩, e3⟩, e4⟩ := hb
  cases Nat.eq_of_beq_eq_true e1
  cases Nat.eq_of_beq_eq_true e2
  cases Nat.eq_of_beq_eq_true e3
  cases Nat.eq_of_beq_eq_true e4
  exact (th_ics _ hq rfl).2.1
def th_nm : List String := ["java/lang/RuntimeException", "java/lang/Exception"]
def th_sp : List Cond := [.laysStatic "java/lang/Throwable" "UNASSIGNED_STACK" "[Ljava/lang/StackTraceElement;", .laysStatic "java/lang/Throwable" "SUPPRESSED_SENTINEL" "Ljava/util/List;", .isRef (.static "java/lang/Throwable" "UNASSIGNED_STACK" "[Ljava/lang/StackTraceElement;"), .isRef (.static "java/lang/Throwable" "SUPPRESSED_SENTINEL" "Ljava/util/List;")]
def th_ok (a : Cond) : Bool := decide (a ∈ th_sp) || (decide (a ∈ tables_1) && mc_wb a)
theorem th_a1 : (Bundle.ownAtoms "PaletteReel" 116 "java/lang/IndexOutOfBoundsException" th_nm).all th_ok = true := by decide +kernel
theorem th_a2 : (Bundle.ownAtoms "PaletteReel" 87 "java/lang/IllegalArgumentException" th_nm).all th_ok = true := by decide +kernel
theorem th_a3 : (Bundle.ownAtoms "PaletteReel" 263 "java/lang/IllegalStateException" th_nm).all th_ok = true := by decide +kernel
theorem th_at {k : Nat} (h1 : 1 ≤ k) (h3 : k ≤ 3) : (Bundle.ownAtoms "PaletteReel" (th_ic k) (pg_ex k) th_nm).all th_ok = true := by
  match k, h1, h3 with
  | 1, _, _ => exact th_a1
  | 2, _, _ => exact th_a2
  | 3, _, _ => exact th_a3
theorem th_fit {k : Nat} (h1 : 1 ≤ k) (h3 : k ≤ 3) : Bundle.fit (pg_ex k) = true ∧ Cond.instantiable (pg_ex k) 6 ∈ tables_1 ∧ Cond.initialized (pg_ex k) ∈ tables_1 := by
  match k, h1, h3 with
  | 1, _, _ => exact ⟨by decide +kernel, List.mem_of_getElem? (i := 559) (by decide +kernel), List.mem_of_getElem? (i := 18) (by decide +kernel)⟩
  | 2, _, _ => exact ⟨by decide +kernel, List.mem_of_getElem? (i := 627) (by decide +kernel), List.mem_of_getElem? (i := 19) (by decide +kernel)⟩
  | 3, _, _ => exact ⟨by decide +kernel, List.mem_of_getElem? (i := 692) (by decide +kernel), List.mem_of_getElem? (i := 20) (by decide +kernel)⟩
theorem mc_Z.ref {B : Nat} {C n d : String} {v : Value} {U : State} (h : mc_Z B C n d v U U.heap) (hv : v.isRef = true) (args : Array Value) : (Cond.isRef (.static C n d)).before args U = true := by
  have he := h.eval args
  cases v with
  | null => simp [Cond.before, Cond.holds, Cond.value, he]
  | ref a => simp [Cond.before, Cond.holds, Cond.value, he]
  | _ => cases hv
theorem mc_same_kept {T t : State} {k n : Nat} (h : T.sameButNew t [] k n) : ∀ q : Nat, q < T.heap.size → t.heap[q]? = T.heap[q]? := by
  intro q hq
  obtain ⟨-, -, -, -, -, h6⟩ := h
  obtain ⟨c', h1, h2, h3, h4⟩ := h6 q _ (Array.getElem?_eq_getElem hq)
  rw [h1, Array.getElem?_eq_getElem hq, h2]
  congr 1
  have : c'.slots = T.heap[q].slots := by
    apply Array.ext_getElem?
    intro i
    exact h4 i (by simp)
  rw [this]
theorem mc_Dy.grow {D : va_G} {ra : Nat → Nat} {B : Nat} {U : State} {σ : mc_M} {H H1 : Heap} (h : mc_Dy D ra B U σ H) (hz : H.size ≤ H1.size) (ho : ∀ q : Nat, q < H.size → H1[q]? = H[q]?) (hv : ∀ (q : Nat) (cell : Cell), H.size ≤ q → H1[q]? = some cell → cell.vm.isStatics = false) : mc_Dy D ra B U (σ.1, σ.2.1, σ.2.2.1, σ.2.2.2.1, 0) H1 := by
  obtain ⟨h1, h2, h3, h4⟩ := h
  have lt : ∀ {q : Nat} {cell : Cell}, H[q]? = some cell → q < H.size := fun q => (Array.getElem?_eq_some_iff.mp q).1
  refine ⟨fun b => (h1 b).same rfl rfl rfl rfl (fun e1 e4 => ?_), Or.inl rfl, ⟨Nat.le_trans h3.1 hz, fun q cell hq hc => ?_⟩, h4⟩
  · rcases (show (σ.2.2.2.1 b).1 = 1 ∨ (σ.2.2.2.1 b).1 = 2 ∨ (σ.2.2.2.1 b).1 = 3 ∨ (σ.2.2.2.1 b).1 = 4 by omega) with e | e | e | e
    · obtain ⟨r, -, cell, q, -⟩ := (h1 b).1 e
      exact ho _ (lt q)
    · obtain ⟨cell, q, -⟩ := (h1 b).2.1 e
      exact ho _ (lt q)
    · obtain ⟨cell, q, -⟩ := (h1 b).2.2.1 e
      exact ho _ (lt q)
    · obtain ⟨cell, q, -⟩ := (h1 b).2.2.2 e
      exact ho _ (lt q)
  · rcases Nat.lt_or_ge q H.size with g | g
    · rw [ho q g] at hc
      exact h3.2 q cell hq hc
    · exact hv q cell g hc
section
variable {p : Program} {l : Launch} {e : Env} {R : Room} {s : State} {m : MethodId} {args : Array Value} {below : List Frame} {meth : Method} {c : Code} {H : Heap} {locs : List Loc} {cells slots : Nat} {Q : State → Prop} {cc : ByteArray} {pc : Nat} {ls : Array Slot} {rest : List Value}
theorem th_ldcw (hexec : p.tables.exec = Jvm.exec) (hb : c.code = cc) {own tx : String} {index q : Nat} (hown : s.vm.findClass own = some m.cls) (hZ : vk_R own index tx q s) (hdg : decode cc pc = .ok (.ldc_w index, 3))
    (k : W p l e R s m args below meth c H locs cells slots Q (F0 m (pc + 3) ls (.ref q :: rest))) : W p l e R s m args below meth c H locs cells slots Q (F0 m pc ls rest) := by
  intro T hT X
  obtain ⟨t, a1, b1⟩ := k T hT X
  refine ⟨t, ?_, b1⟩
  obtain ⟨kk, cf, i, a', hk, hcf, hcp, -, hr, hev'⟩ := Cond.stringRef_spec hown hZ.1
  cases hZ.2.symm.trans hev'
  obtain ⟨k', hk', he⟩ := X.warmed.alike.2.2 _ _ hk
  have hr' : k'.resolved[index]? = some (some (.string q)) := by
    rcases X.warmed.entry hk hk' index with h | ⟨h, -⟩
    · rw [h]; exact hr
    · rw [hr] at h; cases h
  have hd2 : decode c.code (F0 m pc ls rest).pc = .ok (.ldc_w index, 3) := by rw [hb]; exact hdg
  jvm_step X.here [hexec, hd2, ldc_w.wp_string (s := T) (f := F0 m pc ls rest) X.here.top hk' (by rw [he]; exact hcf) hcp hr']
  exact a1
end
