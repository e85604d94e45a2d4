/-! calls: the invoking instruction, by the tables' numbers -/
theorem ml_of {a i x : Nat} (h : ml_has a i x = true) {s : State} {args : Array Value} (hw : ∀ w ∈ pg_ws, ∀ a, w.before a s = true) : (Cond.methodLink (pg_cn a) i (pg_y x)).before args s = true ∨ (Cond.methodLinkNest (pg_cn a) i (pg_y x) "PaletteReel").before args s = true := by
  unfold ml_has at h
  obtain ⟨⟨q1, q2, q3, q4, q5⟩, hq, hb⟩ := List.any_eq_true.mp h
  simp only [Bool.and_eq_true] at hb
  obtain ⟨⟨e1, e2⟩, e3⟩ := hb
  cases Nat.eq_of_beq_eq_true e1
  cases Nat.eq_of_beq_eq_true e2
  cases Nat.eq_of_beq_eq_true e3
  have ht := List.mem_of_getElem? (pg_ml_tab _ hq)
  unfold pg_mw at ht
  cases q4 with
  | zero => exact Or.inl (hw _ (pg_in rfl ht) args)
  | succ n => exact Or.inr (hw _ (pg_in rfl ht) args)
theorem mc_cw_in {x : Nat} (hxl : x < 206) (hx42 : x ≠ 42) : pg_cw x ∈ pg_ws := by
  refine pg_in ?_ (List.mem_of_getElem? (pg_cws x hxl hx42))
  unfold pg_cw
  split <;> rfl
theorem mc_named {x : Nat} (hxl : x < 206) (hx42 : x ≠ 42) {s : State} (hw : ∀ w ∈ pg_ws, ∀ a, w.before a s = true) : ∃ mk, s.methodNamed? (pg_y x) = some mk := by
  have h := hw _ (mc_cw_in hxl hx42) #[]
  unfold pg_cw at h
  split at h
  · exact Cond.code_named h
  · obtain ⟨m', meth, c, h0, -⟩ := Cond.codeWith_spec h
    exact ⟨m', h0⟩
theorem pg_k2h : ∀ mi, mi < 206 → pg_kd mi = 2 → pg_hs mi = [] := by decide +kernel
theorem mc_take_last : ∀ (st : List Value) (n : Nat) (a : Nat), mc_at st n = .ref a → st.take (n + 1) = st.take n ++ [.ref a]
  | [], n, a, h => by cases n <;> cases h
  | v :: r, 0, a, h => by
    have : v = .ref a := h
    subst this
    rfl
  | v :: r, n + 1, a, h => by
    have ih := mc_take_last r n a h
    rw [List.take_succ_cons, List.take_succ_cons, ih]
    rfl
theorem mc_T_app {ra : Nat → Nat} {B : Nat} (a b : List Value) : mc_T ra B (a ++ b) = mc_T ra B a ++ mc_T ra B b := List.map_append
theorem mc_T_rev {ra : Nat → Nat} {B : Nat} (a : List Value) : mc_T ra B a.reverse = (mc_T ra B a).reverse := List.map_reverse
theorem mc_T_len {ra : Nat → Nat} {B : Nat} (a : List Value) : (mc_T ra B a).length = a.length := List.length_map _
theorem mc_T_stk {ra : Nat → Nat} {B : Nat} (st : List Value) (y : Nat) : mc_T ra B st = (mc_T ra B (st.take y).reverse).reverse ++ mc_T ra B (st.drop y) := by
  rw [mc_T_rev, List.reverse_reverse, ← mc_T_app, List.take_append_drop]
section
variable {p : Program} {l : Launch} {e : Env} {s : State} {m : MethodId} {args : Array Value} {below : List Frame} {meth : Method} {c : Code} {H : Heap} {locs : List Loc}
variable {D : va_G} {ra : Nat → Nat} {B : Nat} {v1 v2 : Value} {ls : Array Slot} {mi pc x y i Z : Nat} {L st : List Value} {σ : mc_M} {u : mc_U} {Q : mc_Q}
/-- what the machine knows of a call -/
theorem mc_call_spec {ig : Instr} {Kn : mc_Kn} {Kc : mc_Kc} (h : mc_call mi (pc, ig, 3, x, y, Z) L st σ u Kn Kc Q) : mc_okst st y (pg_nl x) = true ∧ mc_go mi (pc, ig, 3, x, y, Z) L st σ u Kn Kc Q ∧ (Z = 0 ∨ ∃ a, mc_at st (y - 1) = .ref a ∧ ((Z = 1 ∧ σ.2.2.2.1 a = (1, pg_rc x)) ∨ Z = 2)) := by
  unfold mc_call at h
  dsimp only at h
  split at h
  · cases h
  · rename_i hok
    refine ⟨hok, ?_⟩
    split at h
    · exact ⟨h, Or.inl rfl⟩
    · split at h
      · rename_i a ha
        exact ⟨h, Or.inr ⟨a, ha, Or.inr rfl⟩⟩
      · cases h
    · split at h
      · rename_i a ha
        exact ⟨h.2, Or.inr ⟨a, ha, Or.inl ⟨rfl, h.1⟩⟩⟩
      · cases h
    · cases h
set_option maxHeartbeats 1000000 in
theorem ct_call {ig : Instr} (hk : (Z = 0 ∧ ig = .invokestatic i) ∨ (Z = 1 ∧ ig = .invokevirtual i) ∨ (Z = 2 ∧ ig = .invokespecial i)) (hck : ck_cal mi i x y Z = true) (hd : decode (pg_by mi) pc = .ok (ig, 3))
    (Cx : mc_Cx p l s m meth c mi) (St : mc_St D ra B v1 v2 s s.heap) (hB : B ≤ s.heap.size) (hl : mc_lr ra B ls (pg_nl mi) L) (hD : mc_Dy D ra B s σ H) (hS : va_S (mc_A B) s.heap H locs)
    (hc : mc_call mi (pc, ig, 3, x, y, Z) L st σ u (fun L st σ u => mc_Snd D ra B v1 v2 l (mi, pc + 3, L, st, σ, u) Q) (fun mi args σ P => mc_Snd D ra B v1 v2 l (mc_en mi args σ) P) Q)
    (hTh : ∀ (k : Nat) (τ : mc_M) (T' : State) (locs1 : List Loc) (xa : Nat) (cell : Cell) (c1 c2 : Nat) (st1 : List Value), mc_out mi (pg_hd mi pc k) Q k τ → c1 ≤ (pg_cs mi).1 → c2 ≤ (pg_cs mi).2 → Stand p l e (mc_rm mi) s m args below meth c T' locs1 c1 c2 → mc_Dy D ra B s τ T'.heap → va_S (mc_A B) s.heap T'.heap locs1 → T'.heap[xa]? = some cell → cell.vm = .none → s.vm.findClass (pg_ex k) = some cell.cls →
      ∃ t, Steps p.tables e below ((T'.setTop (F0 m pc ls st1)).pushFrame (.throwing xa)) t ∧ mc_MQ D ra B below Q s (pg_cs mi).1 (pg_cs mi).2 t) :
    W p l e (mc_rm mi) s m args below meth c H locs u.1 u.2 (mc_MQ D ra B below Q s (pg_cs mi).1 (pg_cs mi).2) (F0 m pc ls (mc_T ra B st)) := by
  obtain ⟨hok, ⟨hu1, hu2, P, hP, hR, hX⟩, hrec⟩ := mc_call_spec hc
  dsimp only at hu1 hu2 hP hR hX
  unfold ck_cal at hck
  simp only [Bool.and_eq_true, Bool.not_eq_true'] at hck
  obtain ⟨⟨⟨⟨⟨g1, g2⟩, g3⟩, g4⟩, g5⟩, g6⟩ := hck
  have hxl : x < 206 := Nat.le_of_ble_eq_true g2
  have hx42 : x ≠ 42 := fun h => by rw [h] at g3; cases g3
  have hkd : pg_kd x = Z := Nat.eq_of_beq_eq_true g4
  have hy : y = pg_np x + (if Z = 0 then 0 else 1) := Nat.eq_of_beq_eq_true g5
  obtain ⟨mk, hnamed⟩ := mc_named hxl hx42 St.2.1
  have hcls := pg_cls x hxl
  obtain ⟨methY, cY, y1, y2, -, y4, -, -, -, y8⟩ := mc_code_spec hnamed (St.2.1 _ (mc_cw_in hxl hx42) #[])
  have hnp : methY.sig.parameters.length = pg_np x := by
    have := pg_nps x hxl
    rw [y8] at this
    exact Option.some.inj this
  obtain ⟨-, -, -, hlen⟩ := mc_okst_spec hok
  have hlink := ml_of (args := args) g1 St.2.1
  have hini : (Cond.initialized (pg_y x).cls).before args s = true := by
    rw [hcls.1]
    exact St.2.1 _ (pg_in rfl (List.mem_of_getElem? (pg_ini _ hcls.2.2.2.2))) args
  refine ct_go hxl hx42 hok g6 hd Cx St hB hl hD hS hu1 hu2 hnamed ?_ hP hR (fun k τ T' locs1 xa cell q1 q2 q3 q4 q5 q6 q7 => hTh k τ T' locs1 xa cell _ _ _ (hX k τ q1) hu1 hu2 q2 q3 q4 q5 q6 q7)
  intro T hT X
  have hdg : decode c.code (F0 m pc ls (mc_T ra B st)).pc = .ok (ig, 3) := by rw [Cx.2.1]; exact hd
  rcases hk with ⟨rfl, rfl⟩ | ⟨rfl, rfl⟩ | ⟨rfl, rfl⟩
  · exact mc_intoS (sig := methY.sig) X Cx.1 Cx.2.2.2.2.1 hlink (St.2.1 _ (pg_in rfl (List.mem_of_getElem? (pg_k0 x hxl hx42 hkd))) args) hini ⟨hcls.2.1, hcls.2.2.1⟩ hnamed y1 (g := F0 m pc ls (mc_T ra B st)) rfl
      (argsL := mc_T ra B (st.take y).reverse) (rest := mc_T ra B (st.drop y)) (by rw [mc_T_len, List.length_reverse, hlen, hnp, hy]; rfl) (mc_T_stk st y) hdg
  · rcases hrec with h0 | ⟨a, ha, h1 | h2⟩
    · cases h0
    · obtain ⟨-, hsh⟩ := h1
      have hyn : y = pg_np x + 1 := hy
      subst hyn
      have hs1 := pg_k1s x hxl hkd
      have htl := mc_take_last st (pg_np x) a ha
      have hst : mc_T ra B st = (mc_T ra B (st.take (pg_np x)).reverse).reverse ++ .ref (mc_ad ra B a) :: mc_T ra B (st.drop (pg_np x + 1)) := by
        rw [mc_T_stk st (pg_np x + 1), htl, List.reverse_append, mc_T_app, List.reverse_append, List.append_assoc]
        rfl
      have hln : (mc_T ra B (st.take (pg_np x)).reverse).length = methY.sig.parameters.length := by
        rw [mc_T_len, List.length_reverse, hnp]
        rw [htl, List.length_append] at hlen
        exact Nat.succ.inj hlen
      obtain ⟨r, hr, cell, b1, b2, b3, b4⟩ := (hD.1 a).1 (by rw [hsh])
      have hr2 : pg_cl[pg_oc x]? = some r := by rw [hsh] at hr; rw [← hs1.2.1]; exact hr
      have hfc : s.vm.findClass (pg_y x).cls = some cell.cls := by
        obtain ⟨r', hr', -, hrc⟩ := cl_at hs1.2.2
        cases hr2.symm.trans hr'
        rw [hcls.1, ← hrc, b2, hsh]
        have := (St.1.1 _ r hr2).2.1
        rw [← hs1.2.1] at this
        exact this
      have hinto := mc_intoV X Cx.1 Cx.2.2.2.2.1 hlink (St.2.1 _ (pg_in rfl (List.mem_of_getElem? (pg_k1 x hxl (by rw [hkd]; decide)))) args) (St.2.1 _ (pg_inT rfl (List.mem_of_getElem? hs1.1)) args) ⟨hcls.2.1, hcls.2.2.1⟩ hnamed y1 (b := mc_ad ra B a) (cellB := cell) (by rw [hT]; exact b1) (by rw [b3]; rfl) hfc (g := F0 m pc ls (mc_T ra B st)) rfl
        (argsL := mc_T ra B (st.take (pg_np x)).reverse) (rest := mc_T ra B (st.drop (pg_np x + 1))) hln hst hdg
      have harr : mc_T ra B (st.take (pg_np x + 1)).reverse = Value.ref (mc_ad ra B a) :: mc_T ra B (st.take (pg_np x)).reverse := by
        rw [htl, List.reverse_append, mc_T_app]
        rfl
      rw [harr]
      exact hinto
    · cases h2
  · rcases hrec with h0 | ⟨a, ha, h1 | h2⟩
    · cases h0
    · cases h1.1
    · have hyn : y = pg_np x + 1 := hy
      subst hyn
      have hs2 := pg_k2 x hxl hkd
      have htl := mc_take_last st (pg_np x) a ha
      have hst : mc_T ra B st = (mc_T ra B (st.take (pg_np x)).reverse).reverse ++ .ref (mc_ad ra B a) :: mc_T ra B (st.drop (pg_np x + 1)) := by
        rw [mc_T_stk st (pg_np x + 1), htl, List.reverse_append, mc_T_app, List.reverse_append, List.append_assoc]
        rfl
      have hln : (mc_T ra B (st.take (pg_np x)).reverse).length = methY.sig.parameters.length := by
        rw [mc_T_len, List.length_reverse, hnp]
        rw [htl, List.length_append] at hlen
        exact Nat.succ.inj hlen
      have hcode : (Cond.code (pg_y x) (pg_by x) (pg_nl x) none).before args s = true := by
        have := St.2.1 _ (mc_cw_in hxl hx42) args
        unfold pg_cw at this
        rw [pg_k2h x hxl hkd, hs2.2] at this
        exact this
      have hinto := mc_intoI X Cx.1 Cx.2.2.2.2.1 hs2.1 hlink (St.2.1 _ (pg_in rfl (List.mem_of_getElem? (pg_k1 x hxl (by rw [hkd]; decide)))) args) hcode ⟨hcls.2.1, hcls.2.2.1⟩ hnamed (b := mc_ad ra B a) (g := F0 m pc ls (mc_T ra B st)) rfl
        (argsL := mc_T ra B (st.take (pg_np x)).reverse) (rest := mc_T ra B (st.drop (pg_np x + 1))) (fun sig hsig => by rw [y8] at hsig; cases hsig; exact hln) hst hdg
      have harr : mc_T ra B (st.take (pg_np x + 1)).reverse = Value.ref (mc_ad ra B a) :: mc_T ra B (st.take (pg_np x)).reverse := by
        rw [htl, List.reverse_append, mc_T_app]
        rfl
      rw [harr]
      exact hinto
end
