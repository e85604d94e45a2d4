/-! the start: what the Statement gives at the law's entry is the small machine's first memory -/
def lw_R : String := "PaletteReelLaw"
abbrev lw_g : Cond := Jvm.Cond.and given_1 narrow_1
def lw_P (b : Addr) (xs : List Int32) (args : Array Value) (s : State) : Prop := args = #[.ref b] ∧ s.IntsAt b xs ∧ xs.length ≤ 3074 ∧ lw_g.before args s = true
def lw_Q (_ : Array Value) (s : State) (o : Outcome) (t : State) : Prop := o = .returned (some (.int 1)) ∧ Framed s o t [] 601024 7293000
/-- what the machine's end says of the law's -/
theorem lw_end {D : va_G} {ra : Nat → Nat} {args : Array Value} {s t : State} {o : Outcome} {Q : mc_Q} (hQ : ∀ out τ, Q out τ → out = .inl (some (.int 1))) (h : mc_Qc D ra s.heap.size Q s o t ∧ ∃ L, mc_FE s t L 601024 7293000 ∧ ∀ q ∈ L, mc_A s.heap.size q.base) : lw_Q args s o t := by
  obtain ⟨⟨out, τ, h1, h2, -, -⟩, L, ⟨h3, h4⟩, h5⟩ := h
  cases hQ _ _ h1
  have h6 : o = .returned (some (.int 1)) := h2
  refine ⟨h6, ⟨_, h6⟩, h3, ?_⟩
  obtain ⟨e1, e2, e3, e4, e5, e6⟩ := h4
  refine ⟨e1, e2, e3, e4, e5, fun a c hc => ?_⟩
  obtain ⟨c', f1, f2, f3, f4⟩ := e6 a c hc
  refine ⟨c', f1, f2, f3, fun i _ => f4 i fun hm => ?_⟩
  have h7 : s.heap.size ≤ a := h5 _ hm
  exact absurd (Array.getElem?_eq_some_iff.mp hc).1 (Nat.not_lt.mpr h7)
/-- a constant row -/
theorem sa_of {args : Array Value} {s : State} {tm : Term} {f : Nat → Int32} (h1 : (Cond.arrayOf tm .int).before args s = true) (h2 : (Cond.eq (.length tm) (.int 4)).before args s = true) (e0 : (Cond.eq (.elem tm (.int 0)) (.int (f 0))).before args s = true) (e1 : (Cond.eq (.elem tm (.int 1)) (.int (f 1))).before args s = true) (e2 : (Cond.eq (.elem tm (.int 2)) (.int (f 2))).before args s = true) (e3 : (Cond.eq (.elem tm (.int 3)) (.int (f 3))).before args s = true) :
    ∃ t : Nat, tm.eval args s none [] s = some (.ref t) ∧ va_T .int t 4 (fun j => .int (f j)) (mc_A s.heap.size) s s.heap := by
  refine va_Tof (by decide) h1 (va_eqt h2) (fun j hj => ?_) (fun a ha q => Nat.not_le.mpr ha q)
  rcases (show j = 0 ∨ j = 1 ∨ j = 2 ∨ j = 3 by omega) with rfl | rfl | rfl | rfl
  · exact va_eqt e0
  · exact va_eqt e1
  · exact va_eqt e2
  · exact va_eqt e3
abbrev lw_st (a : Nat) : Term := .static "PaletteReel" (pg_sn a) "[I"
theorem sa_rows {args : Array Value} {s : State} (hs : ∀ c ∈ flatC lw_g, c.before args s = true) : ∀ a, 2 ≤ a → a ≤ 4 → ∃ t : Nat, (lw_st a).eval args s none [] s = some (.ref t) ∧ va_T .int t 4 (fun j => .int (st_w a j)) (mc_A s.heap.size) s s.heap := by
  intro a h2 h4
  rcases (show a = 2 ∨ a = 3 ∨ a = 4 by omega) with rfl | rfl | rfl
  · exact sa_of (hs _ (List.mem_of_getElem? (i := 5) (by decide +kernel))) (hs _ (List.mem_of_getElem? (i := 6) (by decide +kernel))) (hs _ (List.mem_of_getElem? (i := 7) (by decide +kernel))) (hs _ (List.mem_of_getElem? (i := 8) (by decide +kernel))) (hs _ (List.mem_of_getElem? (i := 9) (by decide +kernel))) (hs _ (List.mem_of_getElem? (i := 10) (by decide +kernel)))
  · exact sa_of (hs _ (List.mem_of_getElem? (i := 12) (by decide +kernel))) (hs _ (List.mem_of_getElem? (i := 13) (by decide +kernel))) (hs _ (List.mem_of_getElem? (i := 14) (by decide +kernel))) (hs _ (List.mem_of_getElem? (i := 15) (by decide +kernel))) (hs _ (List.mem_of_getElem? (i := 16) (by decide +kernel))) (hs _ (List.mem_of_getElem? (i := 17) (by decide +kernel)))
  · exact sa_of (hs _ (List.mem_of_getElem? (i := 21) (by decide +kernel))) (hs _ (List.mem_of_getElem? (i := 22) (by decide +kernel))) (hs _ (List.mem_of_getElem? (i := 23) (by decide +kernel))) (hs _ (List.mem_of_getElem? (i := 24) (by decide +kernel))) (hs _ (List.mem_of_getElem? (i := 25) (by decide +kernel))) (hs _ (List.mem_of_getElem? (i := 26) (by decide +kernel)))
theorem sa_ref {args : Array Value} {s : State} {t : Term} (h : (Cond.isRef t).before args s = true) : ∃ v, t.eval args s none [] s = some v ∧ v.isRef = true := by
  cases hv : t.eval args s none [] s with
  | none => simp [Cond.before, Cond.holds, Cond.value, hv] at h
  | some w =>
    refine ⟨w, rfl, ?_⟩
    cases w <;> simp_all [Cond.before, Cond.holds, Cond.value, Value.isRef]
theorem sa_lays {args : Array Value} {s : State} (hts : ∀ w ∈ tables_1, w.before args s = true) : ∀ a, 2 ≤ a → a ≤ 4 → (Cond.laysStatic "PaletteReel" (pg_sn a) "[I").before args s = true := by
  intro a h2 h4
  rcases (show a = 2 ∨ a = 3 ∨ a = 4 by omega) with rfl | rfl | rfl
  · exact hts _ (by decide +kernel)
  · exact hts _ (by decide +kernel)
  · exact hts _ (by decide +kernel)
/-- the classes' numbers -/
theorem sa_D {s : State} (hw : ∀ w ∈ pg_ws, ∀ a, w.before a s = true) {args : Array Value} (hts : ∀ w ∈ tables_1, w.before args s = true) (c0 : ClassId) : ∃ D : va_G, va_K D pg_cl [] s := by
  have h : ∀ c : Nat, ∃ d : ClassId × (Nat → Nat), ∀ q : vw_C, pg_cl[c]? = some q → u_Kn s q.1 q.2.1 q.2.2 d.1 d.2 := by
    intro c
    cases hc : pg_cl[c]? with
    | none => exact ⟨(c0, fun _ => 0), fun q hq => by cases hq⟩
    | some q =>
      have hlt : c < 12 := (List.getElem?_eq_some_iff.mp hc).1
      have hi := hts _ (List.mem_of_getElem? (pg_ins c hlt))
      have hn : pg_cn c = q.1 := by
        revert hc
        rcases (show c = 0 ∨ c = 1 ∨ c = 2 ∨ c = 3 ∨ c = 4 ∨ c = 5 ∨ c = 6 ∨ c = 7 ∨ c = 8 ∨ c = 9 ∨ c = 10 ∨ c = 11 by omega) with rfl | rfl | rfl | rfl | rfl | rfl | rfl | rfl | rfl | rfl | rfl | rfl <;> (intro hc; cases hc; rfl)
      rw [hn] at hi
      obtain ⟨cC, iS, hk⟩ := u_known (args := args) (fun w hx => hw w hx args) (pg_uws hc) hi
      exact ⟨(cC, iS), fun q' hq => by cases hq; exact hk⟩
  obtain ⟨f, hf⟩ := Classical.axiomOfChoice h
  exact ⟨(fun c => (f c).1, fun c => (f c).2), fun c q hq => hf c q hq, fun k q hq => by cases hq⟩
theorem sa_tx : ∀ q ∈ pg_lk, Nat.beq q.2.2.1 12 = true → pg_lw q = .stringRef "PaletteReel" q.2.1 (pg_tx q.2.1) := by decide +kernel
theorem sa_ex : ∀ i ∈ pg_sr, (Cond.exactly (.string "PaletteReel" i) "java/lang/String") ∈ flatC lw_g := by decide +kernel
theorem sa_S0 {N a : Nat} (h : ¬ (1 ≤ a ∧ a ≤ 4)) : mk_S N 10 a = (0, 0) := by
  unfold mk_S
  split
  · rcases (show a = 0 ∨ a = 5 ∨ a = 6 ∨ a = 7 ∨ a = 8 ∨ a = 9 by omega) with rfl | rfl | rfl | rfl | rfl | rfl <;> rfl
  · rfl
theorem sa_nil {D : va_G} {ra : Nat → Nat} {B : Nat} {s : State} {σ : mc_M} {H : Heap} {a : Nat} (h : σ.2.2.2.1 a = (0, 0)) : mc_cell D ra B s σ H a :=
  ⟨fun q => (by rw [h] at q; cases q), fun q => (by rw [h] at q; cases q), fun q => (by rw [h] at q; cases q), fun q => (by rw [h] at q; cases q)⟩
theorem sa_int {D : va_G} {ra : Nat → Nat} {B : Nat} {s : State} {σ : mc_M} {H : Heap} {a n : Nat} (h : σ.2.2.2.1 a = (2, n)) (hc : mc_arr s H (mc_ad ra B a) n .int (fun j => .int (σ.1 a j))) : mc_cell D ra B s σ H a :=
  ⟨fun q => (by rw [h] at q; cases q), fun _ => (by rw [h]; exact hc), fun q => (by rw [h] at q; cases q), fun q => (by rw [h] at q; cases q)⟩
def sa_B (xs : Nat → Int32) (a k : Nat) : Int32 := if a = 1 then xs k else st_w a k
theorem sa_Dy {D : va_G} {ra : Nat → Nat} {s : State} {b L : Nat} {xs : Nat → Int32} {B' : Nat → Nat → Int64} (hX : va_X b L xs s s.heap) (hb : b < s.heap.size) (h1 : ∀ k, ¬ (2 ≤ k ∧ k ≤ 4) → ra k = b) (hT : ∀ a, 2 ≤ a → a ≤ 4 → va_T .int (ra a) 4 (fun j => .int (st_w a j)) (mc_A s.heap.size) s s.heap) :
    mc_Dy D ra s.heap.size s (mk_M (sa_B xs) B' 10 L [] 10) s.heap := by
  refine ⟨fun a => ?_, Or.inr ⟨Nat.le_refl _, rfl⟩, ⟨Nat.le_refl _, fun q cell hq hc => absurd (Array.getElem?_eq_some_iff.mp hc).1 (Nat.not_lt.mpr hq)⟩, fun k hk => ⟨?_, ?_⟩⟩
  · by_cases ha : 1 ≤ a ∧ a ≤ 4
    · by_cases ha1 : a = 1
      · subst ha1
        obtain ⟨scr, x1, x2, x3, x4, x5⟩ := hX
        refine sa_int (n := L) rfl ⟨scr, ?_, x2, x3, ⟨Nat.le_of_eq x4.symm, by rw [x4]⟩, fun j hj => x5 j hj, fun C hC => by cases hC⟩
        show s.heap[ra 1]? = some scr
        rw [h1 1 (by omega)]
        exact x1
      · obtain ⟨cell, t1, t2, t3, t4, t5, t6, -⟩ := hT a (by omega) ha.2
        refine sa_int (n := 4) ?_ ⟨cell, ?_, t2, t3, ⟨t4, t5⟩, fun j hj => ?_, fun C hC => by cases hC⟩
        · rcases (show a = 2 ∨ a = 3 ∨ a = 4 by omega) with rfl | rfl | rfl <;> rfl
        · unfold mc_ad
          rw [if_neg (by omega)]
          exact t1
        · rw [t6 j hj]
          show _ = some (Value.int (mk_I (sa_B xs) 10 10 a j))
          unfold mk_I sa_B
          rw [if_neg (by omega), if_neg ha1]
    · exact sa_nil (sa_S0 ha)
  · by_cases h2 : 2 ≤ k ∧ k ≤ 4
    · obtain ⟨cell, t1, -⟩ := hT k h2.1 h2.2
      exact (Array.getElem?_eq_some_iff.mp t1).1
    · rw [h1 k h2]
      exact hb
  · intro q
    have q' : (mk_S L 10 k).1 = 1 := q
    by_cases ha : 1 ≤ k ∧ k ≤ 4
    · rcases (show k = 1 ∨ k = 2 ∨ k = 3 ∨ k = 4 by omega) with rfl | rfl | rfl | rfl <;> cases q'
    · rw [sa_S0 ha] at q'
      cases q'
theorem sa_txs {args : Array Value} {s : State} (hts : ∀ w ∈ tables_1, w.before args s = true) (hs : ∀ c ∈ flatC lw_g, c.before args s = true) : ∀ i ∈ pg_sr, ∃ q, vk_R "PaletteReel" i (pg_tx i) q s := by
  intro i hi
  have hx := hs _ (sa_ex i hi)
  obtain ⟨a, c, cA, kA, q1, -⟩ := Cond.exactly_spec (args := args) (first := s) (o := none) (s := s) (idx := []) hx
  obtain ⟨q, hq, rfl⟩ := List.mem_map.mp hi
  obtain ⟨hq1, hq2⟩ := List.mem_filter.mp hq
  have hw := hts _ (List.mem_of_getElem? (pg_lk_tab q hq1))
  rw [sa_tx q hq1 hq2] at hw
  exact ⟨a, vk_R.of hw q1⟩
theorem sa_St {s : State} {b : Nat} {c0 : ClassId} (hts : ∀ w ∈ lw_tbl, w.before #[Value.ref b] s = true) (hs : ∀ c ∈ flatC lw_g, c.before #[Value.ref b] s = true) :
    ∃ (D : va_G) (ra : Nat → Nat) (v1 v2 : Value), mc_St D ra s.heap.size v1 v2 s s.heap ∧ (∀ k, ¬ (2 ≤ k ∧ k ≤ 4) → ra k = b) ∧ ∀ a, 2 ≤ a → a ≤ 4 → va_T .int (ra a) 4 (fun j => .int (st_w a j)) (mc_A s.heap.size) s s.heap := by
  have ht1 : ∀ w ∈ tables_1, w.before #[Value.ref b] s = true := fun w hw => hts w (List.mem_append_right _ hw)
  have hws : ∀ w ∈ pg_ws, ∀ a, w.before a s = true := fun w hw a => by
    obtain ⟨h1, h2⟩ := List.mem_filter.mp hw
    refine mc_warm h2 (State.WarmedH.refl s) (x := #[Value.ref b]) ?_
    rcases List.mem_append.mp h1 with q | q
    · exact hts w q
    · rcases List.mem_cons.mp q with rfl | q
      · exact hs _ (List.mem_of_getElem? (i := 39) (by decide +kernel))
      · cases List.mem_singleton.mp q
        exact hs _ (List.mem_of_getElem? (i := 54) (by decide +kernel))
  obtain ⟨D, hD⟩ := sa_D hws ht1 c0
  obtain ⟨t2, z2, T2⟩ := sa_rows hs 2 (by decide) (by decide)
  obtain ⟨t3, z3, T3⟩ := sa_rows hs 3 (by decide) (by decide)
  obtain ⟨t4, z4, T4⟩ := sa_rows hs 4 (by decide) (by decide)
  obtain ⟨v1, w1, r1⟩ := sa_ref (hs (Cond.isRef (.static "java/lang/Throwable" "UNASSIGNED_STACK" "[Ljava/lang/StackTraceElement;")) (List.mem_of_getElem? (i := 18) (by decide +kernel)))
  obtain ⟨v2, w2, r2⟩ := sa_ref (hs (Cond.isRef (.static "java/lang/Throwable" "SUPPRESSED_SENTINEL" "Ljava/util/List;")) (List.mem_of_getElem? (i := 19) (by decide +kernel)))
  have hini : (Cond.initialized "PaletteReel").before #[Value.ref b] s = true := ht1 _ (List.mem_of_getElem? (pg_ini 0 (by decide)))
  have hinT : (Cond.initialized "java/lang/Throwable").before #[Value.ref b] s = true := ht1 _ (by decide +kernel)
  refine ⟨D, fun k => if k = 2 then t2 else if k = 3 then t3 else if k = 4 then t4 else b, v1, v2, ⟨hD, hws, va_AO.of (ht1 (.arrayOver (.object "PaletteReel$Frame")) (by decide +kernel)), ?_, ⟨?_, ?_, r1, r2⟩, sa_txs ht1 hs⟩, ?_, ?_⟩
  · intro a h2 h4
    refine mc_Z.of (sa_lays ht1 a h2 h4) hini ?_ (Nat.le_refl _)
    rcases (show a = 2 ∨ a = 3 ∨ a = 4 by omega) with rfl | rfl | rfl
    · exact z2
    · exact z3
    · exact z4
  · exact mc_Z.of (ht1 _ (by decide +kernel)) hinT w1 (Nat.le_refl _)
  · exact mc_Z.of (ht1 _ (by decide +kernel)) hinT w2 (Nat.le_refl _)
  · intro k hk
    dsimp only
    rw [if_neg (by omega), if_neg (by omega), if_neg (by omega)]
  · intro a h2 h4
    rcases (show a = 2 ∨ a = 3 ∨ a = 4 by omega) with rfl | rfl | rfl
    · exact T2
    · exact T3
    · exact T4
def lw_F : Prop := lw_cs 790 ∧ lw_cs 947 ∧ lw_cs 991 ∧ lw_cs 1175
set_option maxHeartbeats 4000000 in
theorem lw_walk (hF : lw_F) (l : Launch) (hfl : l.flags = flags0) (b : Addr) (xs : List Int32) : MetFree l x (headSpec (Jvm.Cond.code x code maxLocals ret :: tables_1) room_1) (lw_P b xs) (fun _ _ _ _ _ => True) lw_Q := by
  refine MetFree.of_bodyS (code := code) (maxLocals := maxLocals) (ret := ret) (by decide) ?_ ?_
  · intro args s m h hn
    obtain ⟨meth, c, h1, h2, h3, h4, h5, h6, -, -⟩ := Cond.code_spec hn (atoms_spec (ws := Jvm.Cond.code x code maxLocals ret :: tables_1) h _ List.mem_cons_self)
    exact ⟨meth, c, h1, h2, h3, h4, h5, h6⟩
  · intro p e s m args below meth c s₁ Bd hml hP _
    obtain ⟨rfl, hx, hbd, hgv⟩ := hP
    obtain ⟨scr, harrAt, hlist, hof, hsmall⟩ := hx
    obtain ⟨hcb, hkn, -, -⟩ := State.arrayAt?_spec harrAt
    have hown : s.vm.findClass lw_R = some m.cls := findClass_of_methodNamed Bd.named
    have hts0 : ∀ c ∈ (Jvm.Cond.code x code maxLocals ret :: tables_1), c.before #[Value.ref b] s = true := atoms_spec (ws := Jvm.Cond.code x code maxLocals ret :: tables_1) Bd.pre
    have hts : ∀ w ∈ lw_tbl, w.before #[Value.ref b] s = true := k2_hts_sels lw_privs (fun w hw => hts0 w (List.mem_cons_of_mem _ hw)) lw_privs_ok
    obtain ⟨meth', c', g1, g2, -, -, -, -, g7, -⟩ := mc_code_spec (mi := 42) Bd.named (hts0 _ List.mem_cons_self)
    cases Bd.method.symm.trans g1
    cases (Stand.of_body Bd).code.symm.trans g2
    have hsz : scr.slots.size = xs.length := by rw [← Array.length_toList, hlist, List.length_map]
    have hval : ∀ j : Nat, j < xs.length → scr.slots[j]? = some (.int (xs.getD j 0)) := fun j hj => by
      rw [← Array.getElem?_toList, hlist]
      simp [hj]
    have hbl : b < s.heap.size := (Array.getElem?_eq_some_iff.mp hcb).1
    have hX : va_X b xs.length (fun j => xs.getD j 0) s s.heap := ⟨scr, hcb, hof, hkn, hsz, hval⟩
    obtain ⟨D, ra, v1, v2, hst, hr1, hrT⟩ := sa_St (c0 := m.cls) hts (flat_of_before _ hgv)
    have hdy := sa_Dy (D := D) (B' := fun _ _ => 0) hX hbl hr1 hrT
    have hwp := lw_true_open (B := sa_B (fun j => xs.getD j 0)) (B' := fun _ _ => 0) (Q := fun out _ => out = .inl (some (.int 1))) hF.1 hF.2.1 hF.2.2.1 hF.2.2.2 hbd (fun a h2 _ => by funext k; unfold sa_B; rw [if_neg (by omega)]) (fun _ => rfl)
    have hS : mc_Snd D ra s.heap.size v1 v2 l (mc_en 42 [.ref 1] (mk_M (sa_B (fun j => xs.getD j 0)) (fun _ _ => 0) 10 xs.length [] 10)) (fun out _ => out = .inl (some (.int 1))) := sn_WP hwp
    have hargs : (mc_T ra s.heap.size [.ref 1]).toArray = #[Value.ref b] := by
      have h1 : ra 1 = b := hr1 1 (by omega)
      rw [← h1]
      rfl
    have hw := hS p e s m (mc_T ra s.heap.size [.ref 1]).toArray below meth c s.heap [] _ ⟨Bd.exec, Bd.bytes, hml, Bd.returns, hown, Bd.notSynchronized, (name_of_methodNamed Bd.named Bd.method).1, g7, hfl⟩ hst (Nat.le_refl _) (mc_lr_entry (args := [.ref 1]) (n := 7) rfl (by decide)) hdy va_S.rf (Nat.zero_le _) (Nat.zero_le _)
    rw [← hargs] at Bd ⊢
    have hh0 : s₁.heap = s.heap := by rw [Bd.state]; rfl
    obtain ⟨t, a1, o, b1, b2, b3⟩ := hw s₁ hh0 (Stand.of_body Bd)
    refine ⟨t, o, ?_, b1, b2, lw_end (fun _ _ q => q) b3⟩
    rw [lg_entry_eq]
    exact a1
theorem lw_pre_spec {args : Array Value} {s : State} (h : lw_g.before args s = true) (hr : rest_1_c.before args s = true) : ∃ (b : Addr) (xs : List Int32), lw_P b xs args s := by
  have hs := flat_of_before _ h
  have hq := flat_of_before _ hr
  have hc : (Cond.count 1).before args s = true := hs _ (by decide +kernel)
  have harr : (Cond.arrayOf (.arg 0) .int).before args s = true := hs _ (by decide +kernel)
  have hle : (Cond.le (.length (.arg 0)) (.int 3074)).before args s = true := hs _ (by decide +kernel)
  have hlen : (Cond.isInt (.length (.arg 0))).before args s = true := hq _ (by decide +kernel)
  have hall : (Cond.all (.arg 0) (.isInt (.elem (.arg 0) (.index 0)))).before args s = true := hq _ (by decide +kernel)
  obtain ⟨b, xs, hb, hx⟩ := State.ints_of_pre rfl harr hlen hall
  have hsm : xs.length < 2 ^ 31 := hx.choose_spec.2.2.2
  have hev : (Term.length (.arg 0)).eval args s none [] s = some (.int xs.length.toInt32) := hx.length_eval hb
  have hv := Cond.le_ints hev (show (Term.int 3074).eval args s none [] s = some (.int 3074) from rfl)
  have hd : xs.length.toInt32 ≤ 3074 := by
    simpa [Cond.before, Cond.holds, hv] using hle
  have hN : xs.length ≤ 3074 := (Int32.ofNat_le_ofNat hsm (by decide)).mp (show Int32.ofNat xs.length ≤ Int32.ofNat 3074 from hd)
  exact ⟨b, xs, Cond.one_arg hc (show args[0]? = some (.ref b) from hb), hx, hN, h⟩
theorem lw_comes (hF : lw_F) (l : Launch) (hfl : l.flags = flags0) : Comes l x (Jvm.Cond.code x code maxLocals ret :: tables_1) room_1 (fun tb e args s => Calls_1 tb e args s ∧ rest_1 tb e args s ∧ Pre_1 tb e args s)
    (fun _ _ args s o t => lw_Q args s o t) := by
  intro p e ha hc hk s m args below hf hfit hheap happ hpre
  obtain ⟨b, xs, hP⟩ := lw_pre_spec hpre.2.2 hpre.2.1
  obtain ⟨k, o, h1, h2, h3, hQ⟩ := lw_walk hF l hfl b xs p e ha hc hk s m args below hf ((Spec.applies_iff_loose hf).mp happ).1 hP trivial
  exact ⟨k, o, h1, h2, h3, hQ⟩
theorem lw_frame {s t : State} {o : Outcome} {args : Array Value} (h : Framed s o t [] 601024 7293000) :
    Framed s o t (fieldLocs frame_1_writes args s ++ arrayLocs frame_1_arrays args s ++ staticLocs frame_1_statics s) 601024 7293000 := h
theorem lw_limb (hF : lw_F) (L : Cond) (hL : ∀ (args : Array Value) (s t : State), L.after args s (.returned (some (.int 1))) t = true) :
    ArmFor flags0 classFile x code maxLocals ret World_1 tables_1 room_1 Calls_1 rest_1 Pre_1
      (fun tb e a s o t => postC L tb e a s o t ∧ Framed s o t (fieldLocs frame_1_writes a s ++ arrayLocs frame_1_arrays a s ++ staticLocs frame_1_statics s) 601024 7293000) := by
  intro l hfl _ _ p e ha hc hk s m args below hf hfit hheap happ hpre
  obtain ⟨k, o, h1, h2, h3, rfl, hF2⟩ := lw_comes hF l hfl p e ha hc hk s m args below hf hfit hheap happ hpre
  exact ⟨k, _, h1, h2, h3, hL args s _, lw_frame hF2⟩
/-- the claim, given the four turns -/
theorem lw_claim (hF : lw_F) : Claimed_1_1 ∧ Claimed_1_2 := ⟨lw_limb hF limb_1_1 (fun args s t => by simp [limb_1_1, Cond.after, Cond.holds, Cond.value]), lw_limb hF limb_1_2 (fun args s t => Cond.after_iff.mpr (by
  first | (rw [show limb_1_2 = Cond.eq .result (.int 1) from rfl, Cond.eq_ints (x := 1) (y := 1) rfl rfl]; simp; done) | (simp [limb_1_2, Cond.value, Term.eval]; done)))⟩
