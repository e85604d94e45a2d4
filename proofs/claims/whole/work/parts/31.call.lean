theorem mc_okst_spec {st : List Value} {y k : Nat} (h : mc_okst st y k = true) : (st.take y).reverse.all mc_val = true ∧ (mc_lay (st.take y).reverse).length ≤ k ∧ ((st.drop y).map fun v => v.category).sum ≤ 8 ∧ (st.take y).length = y := by
  unfold mc_okst at h
  simp only [Bool.and_eq_true] at h
  obtain ⟨⟨⟨h1, h2⟩, h3⟩, h4⟩ := h
  exact ⟨by rw [List.all_reverse]; exact h2, Nat.le_of_ble_eq_true h4, Nat.le_of_ble_eq_true h3, Nat.eq_of_beq_eq_true h1⟩
section
variable {p : Program} {l : Launch} {e : Env} {s : State} {m : MethodId} {args : Array Value} {below : List Frame} {meth : Method} {c : Code} {H : Heap} {locs : List Loc}
variable {D : va_G} {ra : Nat → Nat} {B : Nat} {v1 v2 : Value} {ls : Array Slot} {mi pc x y : Nat} {L st : List Value} {σ : mc_M} {u : mc_U} {Q P : mc_Q}
theorem mc_S_trans {H1 : Heap} {Lc : List Loc} {st0 t : State} (hS : va_S (mc_A B) s.heap H locs) (h0 : st0.heap = H) (h1 : t.heap = H1) (hF : va_F (mc_A B) st0 t) (hL : ∀ q ∈ Lc, mc_A B q.base) : va_S (mc_A B) s.heap H1 (locs ++ Lc) := by
  obtain ⟨g1, g2⟩ := hF
  rw [h0, h1] at g1
  rw [h0] at g2
  refine ⟨Nat.le_trans hS.1 g1, fun q q1 q2 => ?_, fun q hq => ?_⟩
  · have := g2 q (Nat.lt_of_lt_of_le q1 hS.1) q2
    rw [h1] at this
    exact this.trans (hS.2.1 q q1 q2)
  · rcases List.mem_append.mp hq with h | h
    · exact hS.2.2 q h
    · exact hL q h
set_option maxHeartbeats 400000 in
theorem ct_go {mk : MethodId} {ig : Instr} (hxl : x < 206) (hx42 : x ≠ 42) (hok : mc_okst st y (pg_nl x) = true) (hrm : ck_room mi ((pg_rm x).1 + 1) (8 + (pg_nl x + 11) + (pg_rm x).2) = true) (hd : decode (pg_by mi) pc = .ok (ig, 3))
    (Cx : mc_Cx p l s m meth c mi) (St : mc_St D ra B v1 v2 s s.heap) (hB : B ≤ s.heap.size) (hl : mc_lr ra B ls (pg_nl mi) L) (hD : mc_Dy D ra B s σ H) (hS : va_S (mc_A B) s.heap H locs) (hu1 : u.1 + (pg_cs x).1 ≤ (pg_cs mi).1) (hu2 : u.2 + (pg_cs x).2 ≤ (pg_cs mi).2)
    (hnamed : s.methodNamed? (pg_y x) = some mk)
    (lead : ∀ T : State, T.heap = H → Stand p l e (mc_rm mi) s m args below meth c T locs u.1 u.2 → ∃ vm₁, Stand p l e (mc_rm mi) s m args below meth c (T.setVm vm₁) locs u.1 u.2 ∧ ∀ target, (∀ acts, Steps p.tables e below (doInvoke e ((T.setVm vm₁).setTop (F0 m pc ls (mc_T ra B (st.drop y)))) acts mk (mc_T ra B (st.take y).reverse).toArray).1 target) → Steps p.tables e below (T.setTop (F0 m pc ls (mc_T ra B st))) target)
    (hP : mc_Snd D ra B v1 v2 l (mc_en x (st.take y).reverse σ) P)
    (hR : ∀ v τ, P (.inl v) τ → mc_Snd D ra B v1 v2 l (mi, pc + 3, L, v.toList ++ st.drop y, τ, (u.1 + (pg_cs x).1, u.2 + (pg_cs x).2)) Q)
    (hTh : ∀ (k : Nat) (τ : mc_M) (T' : State) (locs1 : List Loc) (xa : Nat) (cell : Cell), P (.inr k) τ → Stand p l e (mc_rm mi) s m args below meth c T' locs1 (u.1 + (pg_cs x).1) (u.2 + (pg_cs x).2) → mc_Dy D ra B s τ T'.heap → va_S (mc_A B) s.heap T'.heap locs1 → T'.heap[xa]? = some cell → cell.vm = .none → s.vm.findClass (pg_ex k) = some cell.cls →
      ∃ t, Steps p.tables e below ((T'.setTop (F0 m pc ls (mc_T ra B (st.drop y)))).pushFrame (.throwing xa)) t ∧ mc_MQ D ra B below Q s (pg_cs mi).1 (pg_cs mi).2 t) :
    W p l e (mc_rm mi) s m args below meth c H locs u.1 u.2 (mc_MQ D ra B below Q s (pg_cs mi).1 (pg_cs mi).2) (F0 m pc ls (mc_T ra B st)) := by
  obtain ⟨k1, k2, k3, -⟩ := mc_okst_spec hok
  have hM := mc_met hxl Cx.2.2.2.2.2.2.2.2 k1 k2 hP
  have hcw : (pg_cw x) ∈ pg_ws := by
    refine pg_in ?_ (List.mem_of_getElem? (pg_cws x hxl hx42))
    unfold pg_cw
    split <;> rfl
  obtain ⟨methY, cY, y1, y2, -, y4, -⟩ := mc_code_spec hnamed (St.2.1 _ hcw #[])
  have hini : Cond.initialized (pg_y x).cls ∈ pg_ws := by
    have hc := pg_cls x hxl
    rw [hc.1]
    exact pg_in rfl (List.mem_of_getElem? (pg_ini _ hc.2.2.2.2))
  have hrm' := rm_ok hrm
  intro T hT X
  obtain ⟨vm₁, X₁, step⟩ := lead T hT X
  have hW1 : s.WarmedH (T.setVm vm₁).vm := X₁.warmed
  have hsz : ls.size = c.maxLocals := by rw [hl.1, Cx.2.2.1]
  have hstV : ∀ V : State, V.vm = (T.setVm vm₁).vm → V.heap = H → mc_St D ra B v1 v2 V V.heap := fun V e1 e2 => St.warm (by rw [e1]; exact hW1) (fun q hq => by rw [e2]; exact hS.2.1 q (by omega) (by show ¬ B ≤ q; omega))
  obtain ⟨o, t, hsteps, hend, ⟨out, τ, hPo, hoc, hdy, hF⟩, Lc, hFE, hfree⟩ := mc_back X₁ (g := F0 m pc ls (mc_T ra B (st.drop y))) rfl hsz (by rw [Cx.2.1]; exact hd) (maxL := pg_nl x) hM (show (pg_rm x).1 + 1 ≤ (mc_rm mi).frames from hrm'.1) (show 8 + (pg_nl x + 11) + (pg_rm x).2 ≤ (mc_rm mi).locals from hrm'.2)
    (by show 2 * 0 + ((mc_T ra B (st.drop y)).map fun v => v.category).sum ≤ 8; rw [mc_T_cat]; omega) (mk := mk) (a := (mc_T ra B (st.take y).reverse).toArray) (X₁.named hnamed)
    (atoms_intro fun w hw => by rw [List.mem_singleton.mp hw]; exact mc_warm (List.mem_filter.mp hcw).2 hW1 (St.2.1 _ hcw #[])) (methY := methY) (cY := cY) (by rw [X₁.warmed.alike.method?]; exact y1) y2 y4
    (mc_warm rfl hW1 (St.2.1 _ hini #[])) hu1 hu2 ⟨rfl, hstV _ rfl hT, by
      have : mc_Dy D ra B ((T.setVm vm₁).calling (F0 m pc ls (mc_T ra B (st.drop y))) mk (mc_T ra B (st.take y).reverse).toArray) σ H := hD.moved hW1.alike
      rw [← hT] at this
      exact this, by show B ≤ T.heap.size; rw [hT]; exact hD.2.2.1.1⟩
  have hst0 : ((T.setVm vm₁).calling (F0 m pc ls (mc_T ra B (st.drop y))) mk (mc_T ra B (st.take y).reverse).toArray).heap = H := hT
  have hWt : s.vm.Alike t.vm := (State.WarmedH.trans hW1 (show (T.setVm vm₁).WarmedH t.vm from hFE.1)).alike
  cases out with
  | inl v =>
    have hov : o = .returned (v.map (mc_tv ra B)) := hoc
    subst hov
    obtain ⟨T', X', -, -, ht⟩ := X₁.outOf (g := F0 m pc ls (mc_T ra B (st.drop y))) rfl (by rw [Cx.2.1]; exact hd) hend hFE.1 hFE.2
    have hhp : t.heap = T'.heap := by rw [ht]; rfl
    have hstk : (v.map (mc_tv ra B)).toList ++ mc_T ra B (st.drop y) = mc_T ra B (v.toList ++ st.drop y) := by
      cases v <;> simp [mc_T]
    obtain ⟨t2, s2, q2⟩ := hR v τ hPo p e s m args below meth c T'.heap (locs ++ Lc) ls Cx St hB hl (by have := hdy.moved hWt.symm; rw [hhp] at this; exact this) (mc_S_trans hS hst0 hhp hF hfree) hu1 hu2 T' rfl X'
    refine ⟨t2, step t2 fun acts => ?_, q2⟩
    rw [doInvoke_state]
    refine hsteps.trans ?_
    rw [ht]
    have : ({ F0 m pc ls (mc_T ra B (st.drop y)) with pc := (F0 m pc ls (mc_T ra B (st.drop y))).pc + 3, stack := (v.map (mc_tv ra B)).toList ++ (F0 m pc ls (mc_T ra B (st.drop y))).stack } : JFrame) = F0 m (pc + 3) ls (mc_T ra B (v.toList ++ st.drop y)) := by
      show F0 m (pc + 3) ls ((v.map (mc_tv ra B)).toList ++ mc_T ra B (st.drop y)) = _
      rw [hstk]
    rw [this]
    exact s2
  | inr k =>
    obtain ⟨xa, cell, ho, c1, c2, c3⟩ := hoc
    subst ho
    obtain ⟨T', X', -, -, ht⟩ := X₁.outOfThrown (g := F0 m pc ls (mc_T ra B (st.drop y))) rfl hend hFE.1 hFE.2
    have hhp : t.heap = T'.heap := by rw [ht, throwing_heap]
    obtain ⟨t2, s2, q2⟩ := hTh k τ T' (locs ++ Lc) xa cell hPo X' (by have := hdy.moved hWt.symm; rw [hhp] at this; exact this) (mc_S_trans hS hst0 hhp hF hfree) (by rw [← hhp]; exact c1) c2 (by rw [← hWt.findClass]; exact c3)
    refine ⟨t2, step t2 fun acts => ?_, q2⟩
    rw [doInvoke_state]
    refine hsteps.trans ?_
    rw [ht]
    exact s2
end
