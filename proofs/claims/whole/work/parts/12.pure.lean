section
variable {p : Program} {l : Launch} {e : Env} {R : Room} {s : State} {m : MethodId} {args : Array Value} {below : List Frame} {meth : Method} {c : Code} {H : Heap} {locs : List Loc} {cells slots : Nat} {Q : State → Prop}
variable {ra : Nat → Nat} {B : Nat} {cc : ByteArray} {ls : Array Slot} {n pc X Y Z : Nat} {b : mc_U} {L st L' st' : List Value} {σ σ' : mc_M} {u u' : mc_U} {o : Option Prop}
abbrev mc_T (ra : Nat → Nat) (B : Nat) (st : List Value) : List Value := st.map (mc_tv ra B)
theorem ef_iadd (hx : p.tables.exec = Jvm.exec) (hb : c.code = cc) (hl : mc_lr ra B ls n L) (hd : decode cc pc = .ok (.iadd, 1)) (h : mc_eff b (pc, .iadd, 1, X, Y, Z) L st σ u = some (o, L', st', σ', u'))
    (kk : σ' = σ → u' = u → ∀ ls1, mc_lr ra B ls1 n L' → W p l e R s m args below meth c H locs cells slots Q (F0 m (pc + 1) ls1 (mc_T ra B st'))) : W p l e R s m args below meth c H locs cells slots Q (F0 m pc ls (mc_T ra B st)) := by
  obtain ⟨x, y, r, rfl, q⟩ := mc_ii_inv (f := fun x y => x + y) h
  cases q
  exact lv_iadd hx hb hd (kk rfl rfl ls hl)
theorem ef_isub (hx : p.tables.exec = Jvm.exec) (hb : c.code = cc) (hl : mc_lr ra B ls n L) (hd : decode cc pc = .ok (.isub, 1)) (h : mc_eff b (pc, .isub, 1, X, Y, Z) L st σ u = some (o, L', st', σ', u'))
    (kk : σ' = σ → u' = u → ∀ ls1, mc_lr ra B ls1 n L' → W p l e R s m args below meth c H locs cells slots Q (F0 m (pc + 1) ls1 (mc_T ra B st'))) : W p l e R s m args below meth c H locs cells slots Q (F0 m pc ls (mc_T ra B st)) := by
  obtain ⟨x, y, r, rfl, q⟩ := mc_ii_inv (f := fun x y => x - y) h
  cases q
  exact lv_isub hx hb hd (kk rfl rfl ls hl)
theorem ef_imul (hx : p.tables.exec = Jvm.exec) (hb : c.code = cc) (hl : mc_lr ra B ls n L) (hd : decode cc pc = .ok (.imul, 1)) (h : mc_eff b (pc, .imul, 1, X, Y, Z) L st σ u = some (o, L', st', σ', u'))
    (kk : σ' = σ → u' = u → ∀ ls1, mc_lr ra B ls1 n L' → W p l e R s m args below meth c H locs cells slots Q (F0 m (pc + 1) ls1 (mc_T ra B st'))) : W p l e R s m args below meth c H locs cells slots Q (F0 m pc ls (mc_T ra B st)) := by
  obtain ⟨x, y, r, rfl, q⟩ := mc_ii_inv (f := fun x y => x * y) h
  cases q
  exact lv_imul hx hb hd (kk rfl rfl ls hl)
theorem ef_iand (hx : p.tables.exec = Jvm.exec) (hb : c.code = cc) (hl : mc_lr ra B ls n L) (hd : decode cc pc = .ok (.iand, 1)) (h : mc_eff b (pc, .iand, 1, X, Y, Z) L st σ u = some (o, L', st', σ', u'))
    (kk : σ' = σ → u' = u → ∀ ls1, mc_lr ra B ls1 n L' → W p l e R s m args below meth c H locs cells slots Q (F0 m (pc + 1) ls1 (mc_T ra B st'))) : W p l e R s m args below meth c H locs cells slots Q (F0 m pc ls (mc_T ra B st)) := by
  obtain ⟨x, y, r, rfl, q⟩ := mc_ii_inv (f := fun x y => x &&& y) h
  cases q
  exact lv_iand hx hb hd (kk rfl rfl ls hl)
theorem ef_ior (hx : p.tables.exec = Jvm.exec) (hb : c.code = cc) (hl : mc_lr ra B ls n L) (hd : decode cc pc = .ok (.ior, 1)) (h : mc_eff b (pc, .ior, 1, X, Y, Z) L st σ u = some (o, L', st', σ', u'))
    (kk : σ' = σ → u' = u → ∀ ls1, mc_lr ra B ls1 n L' → W p l e R s m args below meth c H locs cells slots Q (F0 m (pc + 1) ls1 (mc_T ra B st'))) : W p l e R s m args below meth c H locs cells slots Q (F0 m pc ls (mc_T ra B st)) := by
  obtain ⟨x, y, r, rfl, q⟩ := mc_ii_inv (f := fun x y => x ||| y) h
  cases q
  exact lv_ior hx hb hd (kk rfl rfl ls hl)
theorem ef_ishl (hx : p.tables.exec = Jvm.exec) (hb : c.code = cc) (hl : mc_lr ra B ls n L) (hd : decode cc pc = .ok (.ishl, 1)) (h : mc_eff b (pc, .ishl, 1, X, Y, Z) L st σ u = some (o, L', st', σ', u'))
    (kk : σ' = σ → u' = u → ∀ ls1, mc_lr ra B ls1 n L' → W p l e R s m args below meth c H locs cells slots Q (F0 m (pc + 1) ls1 (mc_T ra B st'))) : W p l e R s m args below meth c H locs cells slots Q (F0 m pc ls (mc_T ra B st)) := by
  obtain ⟨x, y, r, rfl, q⟩ := mc_ii_inv (f := fun x y => x <<< (y &&& 31)) h
  cases q
  exact lv_ishl hx hb hd (kk rfl rfl ls hl)
theorem ef_ishr (hx : p.tables.exec = Jvm.exec) (hb : c.code = cc) (hl : mc_lr ra B ls n L) (hd : decode cc pc = .ok (.ishr, 1)) (h : mc_eff b (pc, .ishr, 1, X, Y, Z) L st σ u = some (o, L', st', σ', u'))
    (kk : σ' = σ → u' = u → ∀ ls1, mc_lr ra B ls1 n L' → W p l e R s m args below meth c H locs cells slots Q (F0 m (pc + 1) ls1 (mc_T ra B st'))) : W p l e R s m args below meth c H locs cells slots Q (F0 m pc ls (mc_T ra B st)) := by
  obtain ⟨x, y, r, rfl, q⟩ := mc_ii_inv (f := fun x y => x >>> (y &&& 31)) h
  cases q
  exact lv_ishr hx hb hd (kk rfl rfl ls hl)
theorem ef_idiv (hx : p.tables.exec = Jvm.exec) (hb : c.code = cc) (hl : mc_lr ra B ls n L) (hd : decode cc pc = .ok (.idiv, 1)) (ho : ∀ O, o = some O → O) (h : mc_eff b (pc, .idiv, 1, X, Y, Z) L st σ u = some (o, L', st', σ', u'))
    (kk : σ' = σ → u' = u → ∀ ls1, mc_lr ra B ls1 n L' → W p l e R s m args below meth c H locs cells slots Q (F0 m (pc + 1) ls1 (mc_T ra B st'))) : W p l e R s m args below meth c H locs cells slots Q (F0 m pc ls (mc_T ra B st)) := by
  obtain ⟨x, y, r, rfl, q⟩ := mc_iio_inv (f := fun x y => x / y) h
  cases q
  exact lv_idiv hx hb hd (ho _ rfl) (kk rfl rfl ls hl)
theorem ef_irem (hx : p.tables.exec = Jvm.exec) (hb : c.code = cc) (hl : mc_lr ra B ls n L) (hd : decode cc pc = .ok (.irem, 1)) (ho : ∀ O, o = some O → O) (h : mc_eff b (pc, .irem, 1, X, Y, Z) L st σ u = some (o, L', st', σ', u'))
    (kk : σ' = σ → u' = u → ∀ ls1, mc_lr ra B ls1 n L' → W p l e R s m args below meth c H locs cells slots Q (F0 m (pc + 1) ls1 (mc_T ra B st'))) : W p l e R s m args below meth c H locs cells slots Q (F0 m pc ls (mc_T ra B st)) := by
  obtain ⟨x, y, r, rfl, q⟩ := mc_iio_inv (f := fun x y => x - x / y * y) h
  cases q
  exact lv_irem hx hb hd (ho _ rfl) (kk rfl rfl ls hl)
theorem ef_land (hx : p.tables.exec = Jvm.exec) (hb : c.code = cc) (hl : mc_lr ra B ls n L) (hd : decode cc pc = .ok (.land, 1)) (h : mc_eff b (pc, .land, 1, X, Y, Z) L st σ u = some (o, L', st', σ', u'))
    (kk : σ' = σ → u' = u → ∀ ls1, mc_lr ra B ls1 n L' → W p l e R s m args below meth c H locs cells slots Q (F0 m (pc + 1) ls1 (mc_T ra B st'))) : W p l e R s m args below meth c H locs cells slots Q (F0 m pc ls (mc_T ra B st)) := by
  obtain ⟨x, y, r, rfl, q⟩ := mc_ll_inv (f := fun x y => x &&& y) h
  cases q
  exact lv_land hx hb hd (kk rfl rfl ls hl)
theorem ef_lor (hx : p.tables.exec = Jvm.exec) (hb : c.code = cc) (hl : mc_lr ra B ls n L) (hd : decode cc pc = .ok (.lor, 1)) (h : mc_eff b (pc, .lor, 1, X, Y, Z) L st σ u = some (o, L', st', σ', u'))
    (kk : σ' = σ → u' = u → ∀ ls1, mc_lr ra B ls1 n L' → W p l e R s m args below meth c H locs cells slots Q (F0 m (pc + 1) ls1 (mc_T ra B st'))) : W p l e R s m args below meth c H locs cells slots Q (F0 m pc ls (mc_T ra B st)) := by
  obtain ⟨x, y, r, rfl, q⟩ := mc_ll_inv (f := fun x y => x ||| y) h
  cases q
  exact lv_lor hx hb hd (kk rfl rfl ls hl)
theorem ef_lshl (hx : p.tables.exec = Jvm.exec) (hb : c.code = cc) (hl : mc_lr ra B ls n L) (hd : decode cc pc = .ok (.lshl, 1)) (h : mc_eff b (pc, .lshl, 1, X, Y, Z) L st σ u = some (o, L', st', σ', u'))
    (kk : σ' = σ → u' = u → ∀ ls1, mc_lr ra B ls1 n L' → W p l e R s m args below meth c H locs cells slots Q (F0 m (pc + 1) ls1 (mc_T ra B st'))) : W p l e R s m args below meth c H locs cells slots Q (F0 m pc ls (mc_T ra B st)) := by
  obtain ⟨x, y, r, rfl, q⟩ := mc_li_inv (f := fun x y => x <<< (y.toInt64 &&& 63)) h
  cases q
  exact lv_lshl hx hb hd rfl (kk rfl rfl ls hl)
theorem ef_lshr (hx : p.tables.exec = Jvm.exec) (hb : c.code = cc) (hl : mc_lr ra B ls n L) (hd : decode cc pc = .ok (.lshr, 1)) (h : mc_eff b (pc, .lshr, 1, X, Y, Z) L st σ u = some (o, L', st', σ', u'))
    (kk : σ' = σ → u' = u → ∀ ls1, mc_lr ra B ls1 n L' → W p l e R s m args below meth c H locs cells slots Q (F0 m (pc + 1) ls1 (mc_T ra B st'))) : W p l e R s m args below meth c H locs cells slots Q (F0 m pc ls (mc_T ra B st)) := by
  obtain ⟨x, y, r, rfl, q⟩ := mc_li_inv (f := fun x y => x >>> (y.toInt64 &&& 63)) h
  cases q
  exact lv_lshr hx hb hd rfl (kk rfl rfl ls hl)
theorem ef_lushr (hx : p.tables.exec = Jvm.exec) (hb : c.code = cc) (hl : mc_lr ra B ls n L) (hd : decode cc pc = .ok (.lushr, 1)) (h : mc_eff b (pc, .lushr, 1, X, Y, Z) L st σ u = some (o, L', st', σ', u'))
    (kk : σ' = σ → u' = u → ∀ ls1, mc_lr ra B ls1 n L' → W p l e R s m args below meth c H locs cells slots Q (F0 m (pc + 1) ls1 (mc_T ra B st'))) : W p l e R s m args below meth c H locs cells slots Q (F0 m pc ls (mc_T ra B st)) := by
  obtain ⟨x, y, r, rfl, q⟩ := mc_li_inv (f := fun x y => (x.toUInt64 >>> (y.toInt64.toUInt64 &&& Int64.toUInt64 63)).toInt64) h
  cases q
  exact lv_lushr hx hb hd rfl (kk rfl rfl ls hl)
theorem ef_iload_n {k : Fin 4} (hx : p.tables.exec = Jvm.exec) (hb : c.code = cc) (hl : mc_lr ra B ls n L) (hd : decode cc pc = .ok (.iload_n k, 1)) (h : mc_eff b (pc, .iload_n k, 1, X, Y, Z) L st σ u = some (o, L', st', σ', u'))
    (kk : σ' = σ → u' = u → ∀ ls1, mc_lr ra B ls1 n L' → W p l e R s m args below meth c H locs cells slots Q (F0 m (pc + 1) ls1 (mc_T ra B st'))) : W p l e R s m args below meth c H locs cells slots Q (F0 m pc ls (mc_T ra B st)) := by
  obtain ⟨x, hx0, q⟩ := mc_ldi_inv (i := (k : Nat)) h
  cases q
  exact lv_iload_n hx hb hd rfl (hl.at hx0 (by simp)) (kk rfl rfl ls hl)
theorem ef_iload {i : Nat} (hx : p.tables.exec = Jvm.exec) (hb : c.code = cc) (hl : mc_lr ra B ls n L) (hd : decode cc pc = .ok (.iload i, 2)) (h : mc_eff b (pc, .iload i, 2, X, Y, Z) L st σ u = some (o, L', st', σ', u'))
    (kk : σ' = σ → u' = u → ∀ ls1, mc_lr ra B ls1 n L' → W p l e R s m args below meth c H locs cells slots Q (F0 m (pc + 2) ls1 (mc_T ra B st'))) : W p l e R s m args below meth c H locs cells slots Q (F0 m pc ls (mc_T ra B st)) := by
  obtain ⟨x, hx0, q⟩ := mc_ldi_inv (i := i) h
  cases q
  exact lv_iload hx hb hd (hl.at hx0 (by simp)) (kk rfl rfl ls hl)
theorem ef_lload_n {k : Fin 4} (hx : p.tables.exec = Jvm.exec) (hb : c.code = cc) (hl : mc_lr ra B ls n L) (hd : decode cc pc = .ok (.lload_n k, 1)) (h : mc_eff b (pc, .lload_n k, 1, X, Y, Z) L st σ u = some (o, L', st', σ', u'))
    (kk : σ' = σ → u' = u → ∀ ls1, mc_lr ra B ls1 n L' → W p l e R s m args below meth c H locs cells slots Q (F0 m (pc + 1) ls1 (mc_T ra B st'))) : W p l e R s m args below meth c H locs cells slots Q (F0 m pc ls (mc_T ra B st)) := by
  obtain ⟨x, hx0, q⟩ := mc_ldl_inv (i := (k : Nat)) h
  cases q
  exact lv_lload_n hx hb hd rfl (hl.at hx0 (by simp)) (kk rfl rfl ls hl)
theorem ef_lload {i : Nat} (hx : p.tables.exec = Jvm.exec) (hb : c.code = cc) (hl : mc_lr ra B ls n L) (hd : decode cc pc = .ok (.lload i, 2)) (h : mc_eff b (pc, .lload i, 2, X, Y, Z) L st σ u = some (o, L', st', σ', u'))
    (kk : σ' = σ → u' = u → ∀ ls1, mc_lr ra B ls1 n L' → W p l e R s m args below meth c H locs cells slots Q (F0 m (pc + 2) ls1 (mc_T ra B st'))) : W p l e R s m args below meth c H locs cells slots Q (F0 m pc ls (mc_T ra B st)) := by
  obtain ⟨x, hx0, q⟩ := mc_ldl_inv (i := i) h
  cases q
  exact lv_lload hx hb hd (hl.at hx0 (by simp)) (kk rfl rfl ls hl)
theorem ef_aload_n {k : Fin 4} (hx : p.tables.exec = Jvm.exec) (hb : c.code = cc) (hl : mc_lr ra B ls n L) (hd : decode cc pc = .ok (.aload_n k, 1)) (h : mc_eff b (pc, .aload_n k, 1, X, Y, Z) L st σ u = some (o, L', st', σ', u'))
    (kk : σ' = σ → u' = u → ∀ ls1, mc_lr ra B ls1 n L' → W p l e R s m args below meth c H locs cells slots Q (F0 m (pc + 1) ls1 (mc_T ra B st'))) : W p l e R s m args below meth c H locs cells slots Q (F0 m pc ls (mc_T ra B st)) := by
  obtain ⟨x, hx0, q⟩ := mc_lda_inv (i := (k : Nat)) h
  cases q
  exact lv_aload_n hx hb hd rfl (hl.at hx0 (by simp)) (kk rfl rfl ls hl)
theorem ef_aload {i : Nat} (hx : p.tables.exec = Jvm.exec) (hb : c.code = cc) (hl : mc_lr ra B ls n L) (hd : decode cc pc = .ok (.aload i, 2)) (h : mc_eff b (pc, .aload i, 2, X, Y, Z) L st σ u = some (o, L', st', σ', u'))
    (kk : σ' = σ → u' = u → ∀ ls1, mc_lr ra B ls1 n L' → W p l e R s m args below meth c H locs cells slots Q (F0 m (pc + 2) ls1 (mc_T ra B st'))) : W p l e R s m args below meth c H locs cells slots Q (F0 m pc ls (mc_T ra B st)) := by
  obtain ⟨x, hx0, q⟩ := mc_lda_inv (i := i) h
  cases q
  exact lv_aload hx hb hd (hl.at hx0 (by simp)) (kk rfl rfl ls hl)
theorem ef_istore_n {k : Fin 4} (hx : p.tables.exec = Jvm.exec) (hb : c.code = cc) (hl : mc_lr ra B ls n L) (hd : decode cc pc = .ok (.istore_n k, 1)) (hi : (k : Nat) < n) (h : mc_eff b (pc, .istore_n k, 1, X, Y, Z) L st σ u = some (o, L', st', σ', u'))
    (kk : σ' = σ → u' = u → ∀ ls1, mc_lr ra B ls1 n L' → W p l e R s m args below meth c H locs cells slots Q (F0 m (pc + 1) ls1 (mc_T ra B st'))) : W p l e R s m args below meth c H locs cells slots Q (F0 m pc ls (mc_T ra B st)) := by
  obtain ⟨x, r, rfl, q⟩ := mc_sti_inv (i := (k : Nat)) h
  cases q
  exact lv_istore_n hx hb hd rfl hl.has hi rfl (fun ls' h' => kk rfl rfl ls' (hl.store rfl h'))
theorem ef_istore {i : Nat} (hx : p.tables.exec = Jvm.exec) (hb : c.code = cc) (hl : mc_lr ra B ls n L) (hd : decode cc pc = .ok (.istore i, 2)) (hi : i < n) (h : mc_eff b (pc, .istore i, 2, X, Y, Z) L st σ u = some (o, L', st', σ', u'))
    (kk : σ' = σ → u' = u → ∀ ls1, mc_lr ra B ls1 n L' → W p l e R s m args below meth c H locs cells slots Q (F0 m (pc + 2) ls1 (mc_T ra B st'))) : W p l e R s m args below meth c H locs cells slots Q (F0 m pc ls (mc_T ra B st)) := by
  obtain ⟨x, r, rfl, q⟩ := mc_sti_inv (i := i) h
  cases q
  exact lv_istore hx hb hd hl.has hi rfl (fun ls' h' => kk rfl rfl ls' (hl.store rfl h'))
theorem ef_astore_n {k : Fin 4} (hx : p.tables.exec = Jvm.exec) (hb : c.code = cc) (hl : mc_lr ra B ls n L) (hd : decode cc pc = .ok (.astore_n k, 1)) (hi : (k : Nat) < n) (h : mc_eff b (pc, .astore_n k, 1, X, Y, Z) L st σ u = some (o, L', st', σ', u'))
    (kk : σ' = σ → u' = u → ∀ ls1, mc_lr ra B ls1 n L' → W p l e R s m args below meth c H locs cells slots Q (F0 m (pc + 1) ls1 (mc_T ra B st'))) : W p l e R s m args below meth c H locs cells slots Q (F0 m pc ls (mc_T ra B st)) := by
  obtain ⟨x, r, rfl, q⟩ := mc_sta_inv (i := (k : Nat)) h
  cases q
  exact lv_astore_n hx hb hd rfl hl.has hi rfl (fun ls' h' => kk rfl rfl ls' (hl.store rfl h'))
theorem ef_astore {i : Nat} (hx : p.tables.exec = Jvm.exec) (hb : c.code = cc) (hl : mc_lr ra B ls n L) (hd : decode cc pc = .ok (.astore i, 2)) (hi : i < n) (h : mc_eff b (pc, .astore i, 2, X, Y, Z) L st σ u = some (o, L', st', σ', u'))
    (kk : σ' = σ → u' = u → ∀ ls1, mc_lr ra B ls1 n L' → W p l e R s m args below meth c H locs cells slots Q (F0 m (pc + 2) ls1 (mc_T ra B st'))) : W p l e R s m args below meth c H locs cells slots Q (F0 m pc ls (mc_T ra B st)) := by
  obtain ⟨x, r, rfl, q⟩ := mc_sta_inv (i := i) h
  cases q
  exact lv_astore hx hb hd hl.has hi rfl (fun ls' h' => kk rfl rfl ls' (hl.store rfl h'))
theorem ef_iinc {i : Nat} {z : Int} (hx : p.tables.exec = Jvm.exec) (hb : c.code = cc) (hl : mc_lr ra B ls n L) (hd : decode cc pc = .ok (.iinc i z, 3)) (hi : i < n) (h : mc_eff b (pc, .iinc i z, 3, X, Y, Z) L st σ u = some (o, L', st', σ', u'))
    (kk : σ' = σ → u' = u → ∀ ls1, mc_lr ra B ls1 n L' → W p l e R s m args below meth c H locs cells slots Q (F0 m (pc + 3) ls1 (mc_T ra B st'))) : W p l e R s m args below meth c H locs cells slots Q (F0 m pc ls (mc_T ra B st)) := by
  obtain ⟨x, hx0, q⟩ := mc_inc_inv (i := i) (k := z) h
  cases q
  have hg := hl.at hx0 (by simp)
  have hh : lv_has ls n ((i, .int x) :: mc_pl ra B L n) := ⟨hl.1, hl.2.1, fun q hq => by
    rcases List.mem_cons.mp hq with rfl | hq
    · exact hg
    · exact hl.has.2.2 q hq⟩
  exact lv_iinc (k := 0) hx hb hd hh rfl rfl hi (by first | (simp; done) | (simp; rfl)) (fun ls' h' => kk rfl rfl ls' (hl.store rfl h'))
theorem ef_dup (hx : p.tables.exec = Jvm.exec) (hb : c.code = cc) (hl : mc_lr ra B ls n L) (hd : decode cc pc = .ok (.dup, 1)) (h : mc_eff b (pc, .dup, 1, X, Y, Z) L st σ u = some (o, L', st', σ', u'))
    (kk : σ' = σ → u' = u → ∀ ls1, mc_lr ra B ls1 n L' → W p l e R s m args below meth c H locs cells slots Q (F0 m (pc + 1) ls1 (mc_T ra B st'))) : W p l e R s m args below meth c H locs cells slots Q (F0 m pc ls (mc_T ra B st)) := by
  obtain ⟨v, r, rfl, hv, q⟩ := mc_dup_inv h
  cases q
  exact lv_dup hx hb hd (mc_one_cat hv) (kk rfl rfl ls hl)
theorem ef_pop (hx : p.tables.exec = Jvm.exec) (hb : c.code = cc) (hl : mc_lr ra B ls n L) (hd : decode cc pc = .ok (.pop, 1)) (h : mc_eff b (pc, .pop, 1, X, Y, Z) L st σ u = some (o, L', st', σ', u'))
    (kk : σ' = σ → u' = u → ∀ ls1, mc_lr ra B ls1 n L' → W p l e R s m args below meth c H locs cells slots Q (F0 m (pc + 1) ls1 (mc_T ra B st'))) : W p l e R s m args below meth c H locs cells slots Q (F0 m pc ls (mc_T ra B st)) := by
  obtain ⟨v, r, rfl, hv, q⟩ := mc_pop_inv h
  cases q
  exact lv_pop hx hb hd (mc_one_cat hv) (kk rfl rfl ls hl)
theorem ef_dup2 (hx : p.tables.exec = Jvm.exec) (hb : c.code = cc) (hl : mc_lr ra B ls n L) (hd : decode cc pc = .ok (.dup2, 1)) (h : mc_eff b (pc, .dup2, 1, X, Y, Z) L st σ u = some (o, L', st', σ', u'))
    (kk : σ' = σ → u' = u → ∀ ls1, mc_lr ra B ls1 n L' → W p l e R s m args below meth c H locs cells slots Q (F0 m (pc + 1) ls1 (mc_T ra B st'))) : W p l e R s m args below meth c H locs cells slots Q (F0 m pc ls (mc_T ra B st)) := by
  obtain ⟨v, x, r, rfl, hv, hw, q⟩ := mc_dup2_inv h
  cases q
  exact lv_dup2_11 hx hb hd (mc_one_cat hv) (mc_one_cat hw) (kk rfl rfl ls hl)
theorem ef_iconst {z : Int} (hx : p.tables.exec = Jvm.exec) (hb : c.code = cc) (hl : mc_lr ra B ls n L) (hd : decode cc pc = .ok (.iconst z, 1)) (h : mc_eff b (pc, .iconst z, 1, X, Y, Z) L st σ u = some (o, L', st', σ', u'))
    (kk : σ' = σ → u' = u → ∀ ls1, mc_lr ra B ls1 n L' → W p l e R s m args below meth c H locs cells slots Q (F0 m (pc + 1) ls1 (mc_T ra B st'))) : W p l e R s m args below meth c H locs cells slots Q (F0 m pc ls (mc_T ra B st)) := by
  cases h
  exact lv_iconst hx hb hd rfl (kk rfl rfl ls hl)
theorem ef_bipush {z : Int} (hx : p.tables.exec = Jvm.exec) (hb : c.code = cc) (hl : mc_lr ra B ls n L) (hd : decode cc pc = .ok (.bipush z, 2)) (h : mc_eff b (pc, .bipush z, 2, X, Y, Z) L st σ u = some (o, L', st', σ', u'))
    (kk : σ' = σ → u' = u → ∀ ls1, mc_lr ra B ls1 n L' → W p l e R s m args below meth c H locs cells slots Q (F0 m (pc + 2) ls1 (mc_T ra B st'))) : W p l e R s m args below meth c H locs cells slots Q (F0 m pc ls (mc_T ra B st)) := by
  cases h
  exact lv_bipush hx hb hd rfl (kk rfl rfl ls hl)
theorem ef_sipush {z : Int} (hx : p.tables.exec = Jvm.exec) (hb : c.code = cc) (hl : mc_lr ra B ls n L) (hd : decode cc pc = .ok (.sipush z, 3)) (h : mc_eff b (pc, .sipush z, 3, X, Y, Z) L st σ u = some (o, L', st', σ', u'))
    (kk : σ' = σ → u' = u → ∀ ls1, mc_lr ra B ls1 n L' → W p l e R s m args below meth c H locs cells slots Q (F0 m (pc + 3) ls1 (mc_T ra B st'))) : W p l e R s m args below meth c H locs cells slots Q (F0 m pc ls (mc_T ra B st)) := by
  cases h
  exact lv_sipush hx hb hd rfl (kk rfl rfl ls hl)
theorem mc_i2l_inv {R : Option Prop × List Value × List Value × mc_M × mc_U} (h : mc_eff b (pc, .i2l, 1, X, Y, Z) L st σ u = some R) : ∃ x r, st = .int x :: r ∧ R = (none, L, .long x.toInt64 :: r, σ, u) := by
  unfold mc_eff at h
  dsimp only at h
  split at h
  · cases h; exact ⟨_, _, rfl, rfl⟩
  · cases h
theorem mc_l2i_inv {R : Option Prop × List Value × List Value × mc_M × mc_U} (h : mc_eff b (pc, .l2i, 1, X, Y, Z) L st σ u = some R) : ∃ x r, st = .long x :: r ∧ R = (none, L, .int x.toInt32 :: r, σ, u) := by
  unfold mc_eff at h
  dsimp only at h
  split at h
  · cases h; exact ⟨_, _, rfl, rfl⟩
  · cases h
theorem mc_lcmp_inv {R : Option Prop × List Value × List Value × mc_M × mc_U} (h : mc_eff b (pc, .lcmp, 1, X, Y, Z) L st σ u = some R) : ∃ x y r, st = .long y :: .long x :: r ∧ R = (none, L, .int (lg_cmp x y) :: r, σ, u) := by
  unfold mc_eff at h
  dsimp only at h
  split at h
  · cases h; exact ⟨_, _, _, rfl, rfl⟩
  · cases h
theorem ef_i2l (hx : p.tables.exec = Jvm.exec) (hb : c.code = cc) (hl : mc_lr ra B ls n L) (hd : decode cc pc = .ok (.i2l, 1)) (h : mc_eff b (pc, .i2l, 1, X, Y, Z) L st σ u = some (o, L', st', σ', u'))
    (kk : σ' = σ → u' = u → ∀ ls1, mc_lr ra B ls1 n L' → W p l e R s m args below meth c H locs cells slots Q (F0 m (pc + 1) ls1 (mc_T ra B st'))) : W p l e R s m args below meth c H locs cells slots Q (F0 m pc ls (mc_T ra B st)) := by
  obtain ⟨x, r, rfl, q⟩ := mc_i2l_inv h
  cases q
  exact lv_i2l hx hb hd rfl (kk rfl rfl ls hl)
theorem ef_l2i (hx : p.tables.exec = Jvm.exec) (hb : c.code = cc) (hl : mc_lr ra B ls n L) (hd : decode cc pc = .ok (.l2i, 1)) (h : mc_eff b (pc, .l2i, 1, X, Y, Z) L st σ u = some (o, L', st', σ', u'))
    (kk : σ' = σ → u' = u → ∀ ls1, mc_lr ra B ls1 n L' → W p l e R s m args below meth c H locs cells slots Q (F0 m (pc + 1) ls1 (mc_T ra B st'))) : W p l e R s m args below meth c H locs cells slots Q (F0 m pc ls (mc_T ra B st)) := by
  obtain ⟨x, r, rfl, q⟩ := mc_l2i_inv h
  cases q
  exact lv_l2i hx hb hd rfl (kk rfl rfl ls hl)
theorem ef_lcmp (hx : p.tables.exec = Jvm.exec) (hb : c.code = cc) (hl : mc_lr ra B ls n L) (hd : decode cc pc = .ok (.lcmp, 1)) (h : mc_eff b (pc, .lcmp, 1, X, Y, Z) L st σ u = some (o, L', st', σ', u'))
    (kk : σ' = σ → u' = u → ∀ ls1, mc_lr ra B ls1 n L' → W p l e R s m args below meth c H locs cells slots Q (F0 m (pc + 1) ls1 (mc_T ra B st'))) : W p l e R s m args below meth c H locs cells slots Q (F0 m pc ls (mc_T ra B st)) := by
  obtain ⟨x, y, r, rfl, q⟩ := mc_lcmp_inv h
  cases q
  exact W.lcmp hx hb hd (kk rfl rfl ls hl)
end
