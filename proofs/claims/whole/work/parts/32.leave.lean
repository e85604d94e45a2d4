section
variable {p : Program} {l : Launch} {e : Env} {s : State} {m : MethodId} {args : Array Value} {below : List Frame} {meth : Method} {c : Code} {locs : List Loc} {cells slots : Nat} {T : State}
variable {D : va_G} {ra : Nat → Nat} {B : Nat} {ls : Array Slot} {mi pc k xa : Nat} {st : List Value} {τ : mc_M} {Q : mc_Q} {cell : Cell}
/-- an exception goes on through a method that has no handlers -/
theorem ct_leave (hno : pg_hs mi = []) (Cx : mc_Cx p l s m meth c mi) (X : Stand p l e (mc_rm mi) s m args below meth c T locs cells slots) (hD : mc_Dy D ra B s τ T.heap) (hS : va_S (mc_A B) s.heap T.heap locs) (hc1 : T.heap[xa]? = some cell) (hc2 : cell.vm = .none) (hc3 : s.vm.findClass (pg_ex k) = some cell.cls)
    (h1 : cells ≤ (pg_cs mi).1) (h2 : slots ≤ (pg_cs mi).2) (hQ : Q (.inr k) τ) : ∃ t, Steps p.tables e below ((T.setTop (F0 m pc ls st)).pushFrame (.throwing xa)) t ∧ mc_MQ D ra B below Q s (pg_cs mi).1 (pg_cs mi).2 t := by
  have hnohs : c.exceptionTable.toList = [] := by
    have := Cx.2.2.2.2.2.2.2.1
    rw [hno] at this
    exact List.map_eq_nil_iff.mp this
  have hlk : meth.locks = false := Cx.2.2.2.2.2.1
  obtain ⟨g1, g2, g3, g4, g5⟩ := X.leaveThrown xa (g := F0 m pc ls st) rfl rfl rfl (by rw [hnohs]; intro x hx; cases hx)
  have hal : s.vm.Alike (T.setFrames (.throwing xa :: below)).vm := g4.alike
  exact ⟨_, g1, .threw xa, g2, g3, ⟨.inr k, τ, hQ, ⟨xa, cell, rfl, hc1, hc2, by rw [hal.findClass]; exact hc3⟩, hD.moved hal, ⟨hS.1, hS.2.1⟩⟩, locs, ⟨g4, g5.weaken (fun y hy _ => hy) h1 h2⟩, hS.2.2⟩
end
