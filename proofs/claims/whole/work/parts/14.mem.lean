/-! fields -/
theorem mc_nar_ref {ty : FieldType} {a : Nat} (h : isReferenceType ty = true) : narrow ty (.ref a) = .ref a ∧ fits ty (.ref a) = true := by
  cases ty <;> first | exact ⟨rfl, rfl⟩ | cases h
theorem mc_nar_bool {v : Int32} (h : v = 0 ∨ v = 1) : narrow .boolean (.int v) = .int v ∧ fits .boolean (.int v) = true := by
  rcases h with rfl | rfl <;> exact ⟨rfl, rfl⟩
theorem mc_nar_int {v : Int32} : narrow .int (.int v) = .int v ∧ fits .int (.int v) = true := ⟨rfl, rfl⟩
section
variable {p : Program} {l : Launch} {e : Env} {R : Room} {s : State} {m : MethodId} {args : Array Value} {below : List Frame} {meth : Method} {c : Code} {H : Heap} {locs : List Loc} {cells slots : Nat} {Q : State → Prop}
variable {D : va_G} {ra : Nat → Nat} {B : Nat} {cc : ByteArray} {ls : Array Slot} {pc : Nat} {rest : List Value} {σ τ : mc_M}
/-- the link of a field, in one of its two forms -/
def mc_FL (s : State) (args : Array Value) (own : String) (idx : Nat) (r : vw_C) (k : Nat) : Prop :=
  (Cond.fieldLink own idx r.1 (r.2.1 k).2.1 (r.2.1 k).2.2.1).before args s = true ∨ (Cond.fieldLinkNest own idx r.1 (r.2.1 k).2.1 (r.2.1 k).2.2.1 "PaletteReel").before args s = true
theorem mc_getf (hx : p.tables.exec = Jvm.exec) (hb : c.code = cc) {own : String} {idx : Nat} (hown : s.vm.findClass own = some m.cls) (hK : va_K D pg_cl [] s) (hw : ∀ w ∈ pg_ws, ∀ a, w.before a s = true) {q ci k : Nat} {r : vw_C} (hr : pg_cl[ci]? = some r) (hk : k < r.2.2) (hlink : mc_FL s args own idx r k) {V : Nat → Value} (ho : t_OB q (D.1 ci) r.2.2 (D.2 ci) H V)
    (hdg : decode cc pc = .ok (.getfield idx, 3)) (kk : W p l e R s m args below meth c H locs cells slots Q (F0 m (pc + 3) ls (V k :: rest))) : W p l e R s m args below meth c H locs cells slots Q (F0 m pc ls (.ref q :: rest)) := by
  obtain ⟨cell, q1, q2, q3, q4⟩ := ho
  obtain ⟨hS, hfc, kC, hkC, hkind⟩ := hK.1 ci _ hr
  obtain ⟨cf, kf, fi, f, hi, hsl⟩ := hS k hk
  have hdec := pg_decs hr k hk
  have hst := (u_facts hfc hkC (u_lays (args := args) (fun w h => hw w h args) (pg_uws hr) hk) hi).1
  rw [hdec.2.1] at hi
  have hv : cell.slots[f.slot]? = some (V k) := by rw [hsl]; exact q4 k hk
  rcases hlink with hlink | hlink
  · exact W.getf hx hb hown hlink hi hst q1 (by rw [q3]; exact fun h => by cases h) hv rfl rfl hdg kk
  · exact va_Wgetf hx hb hown hlink hi hst q1 (by rw [q3]; exact fun h => by cases h) hv rfl rfl hdg kk
theorem mc_putv (hx : p.tables.exec = Jvm.exec) (hb : c.code = cc) {own : String} {idx : Nat} (hown : s.vm.findClass own = some m.cls) (hK : va_K D pg_cl [] s) (hw : ∀ w ∈ pg_ws, ∀ a, w.before a s = true) {q ci k : Nat} {r : vw_C} (hr : pg_cl[ci]? = some r) (hk : k < r.2.2) (hlink : mc_FL s args own idx r k)
    (hfin : (r.2.1 k).2.2.2 = true → meth.name = "<init>" ∧ own = r.1 ∧ (Cond.fieldLink own idx r.1 (r.2.1 k).2.1 (r.2.1 k).2.2.1).before args s = true) {V : Nat → Value} {v : Value} (hn : narrow (pg_ft ci k) v = v ∧ fits (pg_ft ci k) v = true) (ho : t_OB q (D.1 ci) r.2.2 (D.2 ci) H V)
    (hdg : decode cc pc = .ok (.putfield idx, 3)) (kk : ∀ (H1 : Heap) (i : Nat), t_OB q (D.1 ci) r.2.2 (D.2 ci) H1 (updV V k v) → H1.size = H.size → (∀ x : Nat, x ≠ q → H1[x]? = H[x]?) → W p l e R s m args below meth c H1 (locs ++ [⟨q, i⟩]) cells slots Q (F0 m (pc + 3) ls rest)) : W p l e R s m args below meth c H locs cells slots Q (F0 m pc ls (v :: .ref q :: rest)) := by
  have hdec := pg_decs hr k hk
  have hts : ∀ w ∈ pg_ws, w.before args s = true := fun w h => hw w h args
  have hap := va_apart (own := own) hts (pg_uws hr) (pg_ft ci) (fun k hk => (pg_decs hr k hk).1) (pg_ones hr) hK hr
  obtain ⟨cell, q1, q2, q3, q4⟩ := ho
  obtain ⟨hS, hfc, kC, hkC, hkind⟩ := hK.1 ci _ hr
  obtain ⟨cf, kf, fi, f, hi, hsl⟩ := hS k hk
  have hlay := hts _ (pg_uws hr _ (u_in_lay hk))
  have hst := (u_facts hfc hkC (u_lays hts (pg_uws hr) hk) hi).1
  have hlt : f.slot < cell.slots.size := by rw [hsl]; exact k2_hasslot (q4 k hk)
  have hend : ∀ H' : Heap, H'[q]? = some (cell.setSlot f.slot v) → t_OB q (D.1 ci) r.2.2 (D.2 ci) H' (updV V k v) := fun H' e1 => by
    rw [hsl] at e1
    exact ⟨_, e1, q2, q3, t_set q4 hap hk v⟩
  unfold u_lay at hlay
  by_cases hf : (r.2.1 k).2.2.2 = true
  · rw [if_pos hf] at hlay
    obtain ⟨hin, ho2, hl2⟩ := hfin hf
    have hcf : m.cls = cf := by
      obtain ⟨_, _, c', _, _, _, -, -, hf', -, -, -, hown2, -⟩ := Cond.laysFinal_spec hlay
      have e1 : c' = cf := by have := hi.symm.trans hf'; simp at this; exact this.1.symm
      rw [hdec.2.1, ← ho2] at hown2
      rw [← e1]; exact Option.some.inj (hown.symm.trans hown2)
    have h6 := u_fits hfc hkC hkind (Or.inr hlay) hi hdec.1 hn.1 hn.2
    rw [hdec.2.1] at hi
    exact W.putFinK hx hb hown hl2 hi hst hcf hin (by rw [q2]; exact h6) q1 q3 hlt rfl rfl hdg fun H' e1 e2 e3 => kk H' _ (hend H' e1) e2 e3
  · rw [if_neg hf] at hlay
    have h6 := u_store hfc hkC hkind hlay hi hdec.1 hn.1 hn.2
    rw [hdec.2.1] at hi
    rcases hlink with hlink | hlink
    · exact W.putK hx hb (f := f) ⟨hown, hlink, ⟨_, _, _, hi⟩, hst⟩ (by rw [q2]; exact h6) q1 q3 hlt rfl rfl hdg fun H' e1 e2 e3 => kk H' _ (hend H' e1) e2 e3
    · exact va_WputK hx hb hown hlink hi hst (by rw [q2]; exact h6) q1 q3 hlt rfl rfl hdg fun H' e1 e2 e3 => kk H' _ (hend H' e1) e2 e3
/-- behind a field's store the memory has the new number -/
theorem mc_Dy.putI {a x y : Nat} {r : vw_C} {v : Int32} {H1 : Heap} (h : mc_Dy D ra B s σ H) (ha : 10 ≤ a) (hs : σ.2.2.2.1 a = (1, x)) (hr : pg_cl[x]? = some r) (hk : ¬ pg_fk x y = 2) (ho : t_OB (mc_ad ra B a) (D.1 x) r.2.2 (D.2 x) H1 (updV (mc_fv ra B σ a x) y (.int v))) (hz : H1.size = H.size) (hq : ∀ q : Nat, q ≠ mc_ad ra B a → H1[q]? = H[q]?) : mc_Dy D ra B s (mc_up σ.1 a y v, σ.2) H1 := by
  refine h.write ha (fun b hb => mc_up_ne hb) (fun _ _ => rfl) (fun _ _ => rfl) rfl (by rw [hs]; exact ⟨Nat.le_refl 1, (by decide : 1 ≤ 4)⟩) hz hq ?_
  have e : (mc_up σ.1 a y v, σ.2).2.2.2.1 a = (1, x) := hs
  refine ⟨fun _ => ?_, fun e2 => ?_, fun e2 => ?_, fun e2 => ?_⟩
  · rw [e]
    refine ⟨r, hr, ho.to fun k _ => ?_⟩
    unfold mc_fv updV
    by_cases hky : k = y
    · subst hky
      rw [if_pos rfl, if_neg hk]
      show _ = Value.int (mc_up σ.1 a k v a k)
      rw [mc_up_eq]
    · rw [if_neg hky]
      show _ = if pg_fk x k = 2 then mc_rf ra B (σ.2.2.1 a k) else Value.int (mc_up σ.1 a y v a k)
      rw [mc_up_at hky]
  · rw [e] at e2; cases e2
  · rw [e] at e2; cases e2
  · rw [e] at e2; cases e2
theorem mc_Dy.putP {a x y : Nat} {r : vw_C} {v : Nat} {H1 : Heap} (h : mc_Dy D ra B s σ H) (ha : 10 ≤ a) (hs : σ.2.2.2.1 a = (1, x)) (hr : pg_cl[x]? = some r) (hk : pg_fk x y = 2) (hv : ¬ v = 0) (ho : t_OB (mc_ad ra B a) (D.1 x) r.2.2 (D.2 x) H1 (updV (mc_fv ra B σ a x) y (.ref (mc_ad ra B v)))) (hz : H1.size = H.size) (hq : ∀ q : Nat, q ≠ mc_ad ra B a → H1[q]? = H[q]?) : mc_Dy D ra B s (σ.1, σ.2.1, mc_up σ.2.2.1 a y v, σ.2.2.2) H1 := by
  refine h.write ha (fun _ _ => rfl) (fun _ _ => rfl) (fun b hb => mc_up_ne hb) rfl (by rw [hs]; exact ⟨Nat.le_refl 1, (by decide : 1 ≤ 4)⟩) hz hq ?_
  have e : (σ.1, σ.2.1, mc_up σ.2.2.1 a y v, σ.2.2.2).2.2.2.1 a = (1, x) := hs
  refine ⟨fun _ => ?_, fun e2 => ?_, fun e2 => ?_, fun e2 => ?_⟩
  · rw [e]
    refine ⟨r, hr, ho.to fun k _ => ?_⟩
    unfold mc_fv updV
    by_cases hky : k = y
    · subst hky
      rw [if_pos rfl, if_pos hk]
      show _ = mc_rf ra B (mc_up σ.2.2.1 a k v a k)
      rw [mc_up_eq]
      unfold mc_rf
      rw [if_neg hv]
    · rw [if_neg hky]
      show _ = if pg_fk x k = 2 then mc_rf ra B (mc_up σ.2.2.1 a y v a k) else Value.int (σ.1 a k)
      rw [mc_up_at hky]
  · rw [e] at e2; cases e2
  · rw [e] at e2; cases e2
  · rw [e] at e2; cases e2
end
