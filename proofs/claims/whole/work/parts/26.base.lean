section
variable {p : Program} {l : Launch} {e : Env} {R : Room} {s : State} {m : MethodId} {args : Array Value} {below : List Frame} {meth : Method} {c : Code} {T : State} {locs : List Loc} {cells slots : Nat}
/-- the walk, seen as one that begins here: nothing written, nothing made, what room is left -/
theorem mc_rebase (X : Stand p l e R s m args below meth c T locs cells slots) (hc : cells ≤ R.cells) (hs : slots ≤ R.slots) :
    Stand p l e { frames := R.frames, cells := R.cells - cells, slots := R.slots - slots, locals := R.locals } (T.setFrames (.invoking m args :: below)) m args below meth c T [] 0 0 := by
  obtain ⟨g₀, hfr⟩ := X.frames_eq
  have hcur : T.cur < T.threads.size := State.cur_lt_of_frames hfr
  have hF : (T.setFrames (.invoking m args :: below)).frames = .invoking m args :: below := State.frames_setFrames _ hcur
  obtain ⟨th, hth, -⟩ := State.frames_cons hfr
  have hm' : (T.setFrames (.invoking m args :: below)).vm.method? m = some meth := X.method'
  refine ⟨X.admits, X.cas, X.clock, hF, ?_, ?_, hm', X.code, X.here, X.tail, State.WarmedH.refl (T.setFrames (.invoking m args :: below)), by rw [State.stackLimits_setFrames], by rw [State.stackBytes_setFrames], ?_⟩
  · have h := X.room
    have hz := X.heapSize
    have hu := X.used
    simp only [State.hasRoom, Bool.and_eq_true, decide_eq_true_eq] at h ⊢
    rw [State.localsInUse_invoking X.frames X.method X.code, X.frames] at h
    rw [State.localsInUse_invoking hF hm' X.code, hF, State.stackLimits_setFrames, State.stackBytes_setFrames, X.limits, X.bytes]
    refine ⟨⟨⟨h.1.1.1, ?_⟩, ?_⟩, X.book⟩
    · show T.heap.size + (R.cells - cells) ≤ _
      have := h.1.1.2
      omega
    · show T.slotsUsed + (R.slots - slots) ≤ _
      have := h.1.2
      omega
  · have hh := X.hears
    rcases below with _ | ⟨y, r⟩
    · simp only [State.hears] at hh ⊢
      rw [X.method] at hh
      rw [hm']
      exact hh
    · cases y with
      | java g =>
        simp only [State.hears] at hh ⊢
        have : (T.setFrames (.invoking m args :: .java g :: r)).code? g.method = s.code? g.method := by
          rw [State.code?_eq, State.code?_eq]
          show (T.vm.method? g.method).bind _ = _
          rw [X.warmed.alike.method?]
        rw [this]
        exact hh
      | native _ => rfl
      | proc _ => rfl
      | _ =>
        simp only [State.hears] at hh ⊢
        rw [X.method] at hh
        rw [hm']
        exact hh
  · have hcur2 : (T.setFrames (.invoking m args :: below)).cur < (T.setFrames (.invoking m args :: below)).threads.size := State.cur_lt_of_frames hF
    obtain ⟨th2, hth2, -⟩ := State.frames_cons hF
    have h1 := (State.sameButNew.refl (T.setFrames (.invoking m args :: below)) hth2).setFrames T.frames hcur2
    have h2 : (T.setFrames (.invoking m args :: below)).setFrames T.frames = T := by rw [State.setFrames_setFrames, State.setFrames_self hth]
    rw [h2] at h1
    exact h1
/-- what such a walk has done, seen from the method's own start -/
theorem mc_unbase (X : Stand p l e R s m args below meth c T locs cells slots) {fs : List Frame} {t : State} {L : List Loc} {k n : Nat} (hW : (T.setFrames fs).WarmedH t.vm) (h : (T.setFrames fs).sameButNew ({ t with vm := T.vm } : State) L k n) : mc_FE s t (locs ++ L) (cells + k) (slots + n) := by
  have hW' : T.WarmedH t.vm := hW
  have h2 : T.sameButNew ({ t with vm := T.vm } : State) L k n := by
    obtain ⟨h1, h2⟩ := h
    refine ⟨?_, h2⟩
    rw [State.setFrames_setFrames] at h1
    exact h1
  exact ⟨State.WarmedH.trans X.warmed hW', X.same.trans (h2.setVm s.vm)⟩
end
