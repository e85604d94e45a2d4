/-! the small machine's laws hold of the great one: what WP says, the code does -/
section
variable {p : Program} {l : Launch} {e : Env} {s : State} {m : MethodId} {args : Array Value} {below : List Frame} {meth : Method} {c : Code} {H : Heap} {locs : List Loc}
variable {D : va_G} {ra : Nat → Nat} {B : Nat} {v1 v2 : Value} {ls : Array Slot} {mi pc : Nat} {L st : List Value} {σ : mc_M} {u : mc_U} {Q : mc_Q}
set_option maxHeartbeats 4000000 in
theorem sn_call {i n X Y Z : Nat} {ig : Instr} (hig : (Z = 0 ∧ ig = .invokestatic i) ∨ (Z = 1 ∧ ig = .invokevirtual i) ∨ (Z = 2 ∧ ig = .invokespecial i)) (hn : n = 3) (hck : ck_cal mi i X Y Z = true) (hm : (pc, ig, n, X, Y, Z) ∈ pg_tb mi) (Cx : mc_Cx p l s m meth c mi) (St : mc_St D ra B v1 v2 s s.heap) (hB : B ≤ s.heap.size) (hl : mc_lr ra B ls (pg_nl mi) L) (hD : mc_Dy D ra B s σ H) (hS : va_S (mc_A B) s.heap H locs)
    (h : mc_call mi (pc, ig, n, X, Y, Z) L st σ u (fun L st σ u => mc_Snd D ra B v1 v2 l (mi, pc + n, L, st, σ, u) Q) (fun mi args σ P => mc_Snd D ra B v1 v2 l (mc_en mi args σ) P) Q) :
    W p l e (mc_rm mi) s m args below meth c H locs u.1 u.2 (mc_MQ D ra B below Q s (pg_cs mi).1 (pg_cs mi).2) (F0 m pc ls (mc_T ra B st)) := by
  subst hn
  have hd := en_dec hm
  dsimp only at hd
  have hinv : hn_inv (pc, ig, 3, X, Y, Z) = true := by
    rcases hig with ⟨-, rfl⟩ | ⟨-, rfl⟩ | ⟨-, rfl⟩ <;> rfl
  refine ct_call hig hck hd Cx St hB hl hD hS h ?_
  intro k τ T' locs1 xa cell c1 c2 st1 q1 q2 q3 q4 q5 q6 q7 q8 q9
  have ht := ct_thrown (e := e) (args := args) (below := below) (T := T') (locs := locs1) (c1 := c1) (c2 := c2) (τ := τ) (Q := Q) (cell := cell) (st := st1) (xa := xa) (k := k) hm hinv Cx St hl
  dsimp only at ht
  exact ht q1 q2 q3 q4 q5 q6 q7 q8 q9
theorem sn_z {n X Y Z : Nat} {ig : Instr} {Kn : mc_Kn} {Kc : mc_Kc} (h : mc_call mi (pc, ig, n, X, Y, Z) L st σ u Kn Kc Q) : Z ≤ 2 := by
  unfold mc_call at h
  split at h
  · cases h
  · dsimp only at h
    split at h
    · decide
    · decide
    · decide
    · cases h
theorem sn_ctl {x : mc_E} {r : List mc_E} (hf : mc_from mi pc = x :: r)
    (h : mc_ctl mi x L st σ u (fun L st σ u => mc_Snd D ra B v1 v2 l (mi, x.1 + x.2.2.1, L, st, σ, u) Q) (fun t L st σ u => mc_Snd D ra B v1 v2 l (mi, t, L, st, σ, u) Q) (fun mi args σ P => mc_Snd D ra B v1 v2 l (mc_en mi args σ) P) Q)
    (Cx : mc_Cx p l s m meth c mi) (St : mc_St D ra B v1 v2 s s.heap) (hB : B ≤ s.heap.size) (hl : mc_lr ra B ls (pg_nl mi) L) (hD : mc_Dy D ra B s σ H) (hS : va_S (mc_A B) s.heap H locs) (hu1 : u.1 ≤ (pg_cs mi).1) (hu2 : u.2 ≤ (pg_cs mi).2) :
    W p l e (mc_rm mi) s m args below meth c H locs u.1 u.2 (mc_MQ D ra B below Q s (pg_cs mi).1 (pg_cs mi).2) (F0 m pc ls (mc_T ra B st)) := by
  obtain ⟨hm, he, -, -⟩ := en_th hf
  have hn := en_n hm
  have hd := en_dec hm
  obtain ⟨pc', ins, n, X, Y, Z⟩ := x
  dsimp only at he
  subst he
  dsimp only at h hd
  have jmp : ∀ t st1, mc_Snd D ra B v1 v2 l (mi, t, L, st1, σ, u) Q → W p l e (mc_rm mi) s m args below meth c H locs u.1 u.2 (mc_MQ D ra B below Q s (pg_cs mi).1 (pg_cs mi).2) (F0 m t ls (mc_T ra B st1)) := fun t st1 q => q p e s m args below meth c H locs ls Cx St hB hl hD hS hu1 hu2
  cases ins with
  | goto o =>
    replace hn : (Nat.beq n 3 && decide ((pc' : Int) + o = (X : Int))) = true := hn
    simp only [Bool.and_eq_true, decide_eq_true_eq] at hn
    have hq := Nat.eq_of_beq_eq_true hn.1
    subst hq
    exact lv_goto Cx.1 Cx.2.1 hd hn.2 (jmp _ _ h)
  | ifCond cd o =>
    replace hn : (Nat.beq n 3 && decide ((pc' : Int) + o = (X : Int))) = true := hn
    simp only [Bool.and_eq_true, decide_eq_true_eq] at hn
    have hq := Nat.eq_of_beq_eq_true hn.1
    subst hq
    unfold mc_ctl at h
    dsimp only at h
    split at h
    · exact ct_if Cx hd hn.2 ⟨fun q => jmp _ _ (h.1 q), fun q => jmp _ _ (h.2 q)⟩
    · cases h
  | if_icmp cd o =>
    replace hn : (Nat.beq n 3 && decide ((pc' : Int) + o = (X : Int))) = true := hn
    simp only [Bool.and_eq_true, decide_eq_true_eq] at hn
    have hq := Nat.eq_of_beq_eq_true hn.1
    subst hq
    unfold mc_ctl at h
    dsimp only at h
    split at h
    · exact ct_icmp Cx hd hn.2 ⟨fun q => jmp _ _ (h.1 q), fun q => jmp _ _ (h.2 q)⟩
    · cases h
  | tableswitch d lo hi offs =>
    replace hn : (decide ((pc' : Int) + d = (X : Int)) && decide (hi = lo + (offs.toList.length : Int) - 1) && offs.toList.all (fun o => decide (0 ≤ (pc' : Int) + o))) = true := hn
    simp only [Bool.and_eq_true, decide_eq_true_eq] at hn
    obtain ⟨⟨n1, n2⟩, n3⟩ := hn
    unfold mc_ctl at h
    dsimp only at h
    split at h
    · exact ct_switch Cx hd n1 n2 (fun o ho => of_decide_eq_true (List.all_eq_true.mp n3 o ho)) (mc_tsw_mono (fun t q => jmp t _ q) _ _ _ h)
    · cases h
  | ireturn =>
    replace hn : (Nat.beq n 1 && ((Nat.beq Z 0 && decide (pg_rt mi = some .int)) || (Nat.beq Z 1 && decide (pg_rt mi = some .boolean)))) = true := hn
    simp only [Bool.and_eq_true, Bool.or_eq_true, decide_eq_true_eq] at hn
    have hq := Nat.eq_of_beq_eq_true hn.1
    subst hq
    unfold mc_ctl at h
    dsimp only at h
    split at h
    · rcases hn.2 with ⟨hz, hr⟩ | ⟨hz, hr⟩
      · have hz := Nat.eq_of_beq_eq_true hz
        subst hz
        exact ct_iret Cx hd (Or.inl hr) hD hS hu1 hu2 h
      · have hz := Nat.eq_of_beq_eq_true hz
        subst hz
        exact ct_iret Cx hd (Or.inr ⟨hr, h.1⟩) hD hS hu1 hu2 h.2
    · cases h
  | areturn =>
    replace hn : (Nat.beq n 1 && (match pg_rt mi with
      | some t => isReferenceType t
      | none => false)) = true := hn
    rw [Bool.and_eq_true] at hn
    have hq := Nat.eq_of_beq_eq_true hn.1
    subst hq
    have hn2 := hn.2
    unfold mc_ctl at h
    dsimp only at h
    split at h
    · split at hn2
      · rename_i hr
        exact ct_aret Cx hd hr hn2 hD hS hu1 hu2 h
      · cases hn2
    · cases h
  | return_ =>
    replace hn : (Nat.beq n 1 && decide (pg_rt mi = none)) = true := hn
    simp only [Bool.and_eq_true, decide_eq_true_eq] at hn
    have hq := Nat.eq_of_beq_eq_true hn.1
    subst hq
    unfold mc_ctl at h
    dsimp only at h
    split at h
    · exact ct_vret Cx hd hn.2 hD hS hu1 hu2 h
    · cases h
  | new i =>
    unfold mc_ctl at h
    dsimp only at h
    split at h
    · split at h
      · exact ct_throw hf Cx St hB hl hD hS h.1 h.2.1 h.2.2
      · cases h
    · cases h
  | invokestatic i =>
    replace hn : (Nat.beq n 3 && ((Nat.beq Z 4 && lk_has (pg_oc mi) i 4 0 && ck_room mi 1 21) || (Nat.beq Z 5 && lk_has (pg_oc mi) i 5 0 && ck_room mi 1 21) || (Nat.beq Z 6 && lk_has (pg_oc mi) i 6 0 && ck_room mi 1 48) || (Nat.beq Z 0 && ck_cal mi i X Y Z))) = true := hn
    simp only [Bool.and_eq_true, Bool.or_eq_true] at hn
    obtain ⟨hq, hn⟩ := hn
    replace h : mc_call mi (pc', .invokestatic i, n, X, Y, Z) L st σ u (fun L st σ u => mc_Snd D ra B v1 v2 l (mi, pc' + n, L, st, σ, u) Q) (fun mi args σ P => mc_Snd D ra B v1 v2 l (mc_en mi args σ) P) Q := h
    have hz2 := sn_z h
    rcases hn with ((⟨⟨hz, -⟩, -⟩ | ⟨⟨hz, -⟩, -⟩) | ⟨⟨hz, -⟩, -⟩) | ⟨hz, hk⟩
    · have hz := Nat.eq_of_beq_eq_true hz
      omega
    · have hz := Nat.eq_of_beq_eq_true hz
      omega
    · have hz := Nat.eq_of_beq_eq_true hz
      omega
    · exact sn_call (Or.inl ⟨Nat.eq_of_beq_eq_true hz, rfl⟩) (Nat.eq_of_beq_eq_true hq) hk hm Cx St hB hl hD hS h
  | invokevirtual i =>
    replace hn : (Nat.beq n 3 && Nat.beq Z 1 && ck_cal mi i X Y Z) = true := hn
    simp only [Bool.and_eq_true] at hn
    exact sn_call (Or.inr (Or.inl ⟨Nat.eq_of_beq_eq_true hn.1.2, rfl⟩)) (Nat.eq_of_beq_eq_true hn.1.1) hn.2 hm Cx St hB hl hD hS h
  | invokespecial i =>
    replace hn : (Nat.beq n 3 && ((Nat.beq Z 3 && lk_has (pg_oc mi) i 7 0 && ck_room mi 1 20) || (Nat.beq Z 2 && ck_cal mi i X Y Z) || Nat.beq Z 9)) = true := hn
    simp only [Bool.and_eq_true, Bool.or_eq_true] at hn
    obtain ⟨hq, hn⟩ := hn
    replace h : mc_call mi (pc', .invokespecial i, n, X, Y, Z) L st σ u (fun L st σ u => mc_Snd D ra B v1 v2 l (mi, pc' + n, L, st, σ, u) Q) (fun mi args σ P => mc_Snd D ra B v1 v2 l (mc_en mi args σ) P) Q := h
    have hz2 := sn_z h
    rcases hn with (⟨⟨hz, -⟩, -⟩ | ⟨hz, hk⟩) | hz
    · have hz := Nat.eq_of_beq_eq_true hz
      omega
    · exact sn_call (Or.inr (Or.inr ⟨Nat.eq_of_beq_eq_true hz, rfl⟩)) (Nat.eq_of_beq_eq_true hq) hk hm Cx St hB hl hD hS h
    · have hz := Nat.eq_of_beq_eq_true hz
      omega
  | _ => exact False.elim h
end
section
variable {l : Launch} {D : va_G} {ra : Nat → Nat} {B : Nat} {v1 v2 : Value} {x : mc_C} {Q : mc_Q}
theorem sn_F (h : mc_F (mc_Snd D ra B v1 v2 l) x Q) : mc_Snd D ra B v1 v2 l x Q := by
  obtain ⟨mi, pc, L, st, σ, u⟩ := x
  intro p e s m args below meth c H locs ls Cx St hB hl hD hS hu1 hu2
  dsimp only at Cx hl hD hu1 hu2 ⊢
  unfold mc_F at h
  dsimp only at h
  split at h
  · exact h.elim
  · rename_i y r hf
    obtain ⟨hm, he, -, -⟩ := en_th hf
    unfold mc_step at h
    split at h
    · rename_i L' st' σ' u' heff
      rw [← he]
      exact es_all hm heff (fun O q => nomatch q) Cx St hl hD hS hu1 hu2 (fun H1 locs1 ls1 a1 a2 a3 a4 a5 => h p e s m args below meth c H1 locs1 ls1 Cx St hB a1 a2 a3 a4 a5)
    · rename_i O L' st' σ' u' heff
      rw [← he]
      exact es_all hm heff (fun O' q => by cases q; exact h.1) Cx St hl hD hS hu1 hu2 (fun H1 locs1 ls1 a1 a2 a3 a4 a5 => h.2 p e s m args below meth c H1 locs1 ls1 Cx St hB a1 a2 a3 a4 a5)
    · exact sn_ctl hf h Cx St hB hl hD hS hu1 hu2
theorem mc_MQ_mono {below : List Frame} {Q' : mc_Q} {s t : State} {a b : Nat} (hq : ∀ o σ, Q o σ → Q' o σ) (h : mc_MQ D ra B below Q s a b t) : mc_MQ D ra B below Q' s a b t := by
  obtain ⟨o, h1, h2, ⟨out, τ, h3, h4⟩, h5⟩ := h
  exact ⟨o, h1, h2, ⟨out, τ, hq _ _ h3, h4⟩, h5⟩
theorem sn_Cl : mc_Cl (mc_Snd D ra B v1 v2 l) :=
  ⟨fun _ _ h => sn_F h, fun _ _ _ h hq p e s m args below meth c H locs ls Cx St hB hl hD hS hu1 hu2 => mc_Wweak (h p e s m args below meth c H locs ls Cx St hB hl hD hS hu1 hu2) (fun _ ht => mc_MQ_mono hq ht)⟩
/-- THE SMALL MACHINE IS SOUND -/
theorem sn_WP (h : mc_WP x Q) : mc_Snd D ra B v1 v2 l x Q := h _ sn_Cl
end
