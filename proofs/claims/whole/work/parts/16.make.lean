section
variable {p : Program} {l : Launch} {e : Env} {R : Room} {s : State} {m : MethodId} {args : Array Value} {below : List Frame} {meth : Method} {c : Code} {H : Heap} {locs : List Loc} {cells slots : Nat} {Q : State → Prop}
variable {D : va_G} {ra : Nat → Nat} {B : Nat} {cc : ByteArray} {ls : Array Slot} {pc : Nat} {rest : List Value} {σ τ : mc_M}
theorem mc_S_grow {H1 : Heap} (h : va_S (mc_A B) s.heap H locs) (hz : H1.size = H.size + 1) (ho : ∀ q : Nat, q < H.size → H1[q]? = H[q]?) : va_S (mc_A B) s.heap H1 locs :=
  ⟨Nat.le_trans h.1 (by omega), fun q h1 h2 => (ho q (Nat.lt_of_lt_of_le h1 h.1)).trans (h.2.1 q h1 h2), h.2.2⟩
/-- a new object -/
theorem mc_newO (hx : p.tables.exec = Jvm.exec) (hb : c.code = cc) {own : String} {idx ci : Nat} {r : vw_C} (hown : s.vm.findClass own = some m.cls) (hK : va_K D pg_cl [] s) (hw : ∀ w ∈ pg_ws, ∀ a, w.before a s = true) (hr : pg_cl[ci]? = some r)
    (hcl : (Cond.classLink own idx r.1).before args s = true) (hins : (Cond.instantiable r.1 r.2.2).before args s = true) (hini : (Cond.initialized r.1).before args s = true) (h : mc_Dy D ra B s σ H) (hS : va_S (mc_A B) s.heap H locs) (hn : 10 ≤ σ.2.2.2.2) (h1 : cells + 1 ≤ R.cells) (h2 : slots + r.2.2 ≤ R.slots) (hdg : decode cc pc = .ok (.new idx, 3))
    (kk : ∀ H1 : Heap, mc_Dy D ra B s (mc_mk σ (1, ci)) H1 → va_S (mc_A B) s.heap H1 locs → W p l e R s m args below meth c H1 locs (cells + 1) (slots + r.2.2) Q (F0 m (pc + 3) ls (.ref (mc_ad ra B σ.2.2.2.2) :: rest))) : W p l e R s m args below meth c H locs cells slots Q (F0 m pc ls rest) := by
  have hKn := hK.1 ci _ hr
  have hts : ∀ w ∈ pg_ws, w.before args s = true := fun w h => hw w h args
  refine W.newcK hx hb hown hcl hins hini rfl hdg h1 h2 hKn.2.1 rfl fun H1 kC hkC e1 z1 o1 => ?_
  have hob := u_born (pg_ft ci) hts (pg_uws hr) hKn hkC e1 (fun k hk => (pg_decs hr k hk).1)
  have had := mc_ad_next h hn
  have hrow : (mc_mk σ (1, ci)).2.2.2.1 σ.2.2.2.2 = (1, ci) := mc_row_eq
  have key := kk H1 (h.make hn ⟨by simp, by simp⟩ z1 o1 ⟨fun _ => ?_, fun q => ?_, fun q => ?_, fun q => ?_⟩) (mc_S_grow hS z1 o1)
  · rw [had] at key; exact key
  · rw [hrow, had]
    refine ⟨r, hr, hob.to fun k hk => ?_⟩
    have hd := pg_decs hr k hk
    unfold mc_fv
    by_cases hf : pg_fk ci k = 2
    · rw [if_pos hf, show (mc_mk σ (1, ci)).2.2.1 σ.2.2.2.2 k = 0 from congrFun (mc_row_eq (f := σ.2.2.1)) k]
      have := hd.2.2.1 hf
      cases hty : pg_ft ci k <;> rw [hty] at this <;> first | rfl | cases this
    · rw [if_neg hf, show (mc_mk σ (1, ci)).1 σ.2.2.2.2 k = 0 from congrFun (mc_row_eq (f := σ.1)) k]
      by_cases hf1 : pg_fk ci k = 1
      · rw [hd.2.2.2.1 hf1]; rfl
      · rw [hd.2.2.2.2 hf hf1]; rfl
  · rw [hrow] at q; cases q
  · rw [hrow] at q; cases q
  · rw [hrow] at q; cases q
theorem mc_arr_new {H1 : Heap} {cA : ClassId} {q n : Nat} {ty : FieldType} {f : Nat → Value} (e : H1[q]? = some (arrV cA n f)) (hA : ArrOfT s cA ty) (hR : va_RA s cA ty) : mc_arr s H1 q n ty f :=
  ⟨_, e, hA n f, (fun h => by cases h), ⟨by rw [arrV_size]; exact Nat.le_refl _, by rw [arrV_size]⟩, fun j hj => arrV_read _ _ hj, fun _ _ => hR⟩
/-- new arrays -/
theorem mc_newI (hx : p.tables.exec = Jvm.exec) (hb : c.code = cc) (hw : (Cond.arrayClass .int).before args s = true) (h : mc_Dy D ra B s σ H) (hS : va_S (mc_A B) s.heap H locs) {n : Int32} (hn : 10 ≤ σ.2.2.2.2) (h0 : ¬ n < 0) (h3 : n.toNatClampNeg ≤ 1000) (h1 : cells + 1 ≤ R.cells) (h2 : slots + n.toNatClampNeg ≤ R.slots) (hdg : decode cc pc = .ok (.newarray .int, 2))
    (kk : ∀ H1 : Heap, mc_Dy D ra B s (mc_mk σ (2, n.toNatClampNeg)) H1 → va_S (mc_A B) s.heap H1 locs → W p l e R s m args below meth c H1 locs (cells + 1) (slots + n.toNatClampNeg) Q (F0 m (pc + 2) ls (.ref (mc_ad ra B σ.2.2.2.2) :: rest))) : W p l e R s m args below meth c H locs cells slots Q (F0 m pc ls (.int n :: rest)) := by
  refine W.newa (atype := .int) hx hb hw (g := F0 m pc ls (.int n :: rest)) rfl hdg (rest := rest) rfl h0 (show n.toNatClampNeg * 4 ≤ 536870912 by omega) h1 h2 fun cA kA comp f1 f2 f3 => ?_
  generalize hH1 : H.push ({ cls := cA, slots := Array.replicate n.toNatClampNeg (defaultValue (newarray.typeOf .int)), vm := .none } : Cell) = H1
  have z1 : H1.size = H.size + 1 := by rw [← hH1, Array.size_push]
  have e1 : H1[H.size]? = some (arrV cA n.toNatClampNeg (fun _ => .int 0)) := by rw [← hH1, Array.getElem?_push_size, ← arrV_new]; rfl
  have o1 : ∀ q : Nat, q < H.size → H1[q]? = H[q]? := fun q hq => by rw [← hH1, Array.getElem?_push, if_neg (Nat.ne_of_lt hq)]
  have had := mc_ad_next h hn
  have hrow : (mc_mk σ (2, n.toNatClampNeg)).2.2.2.1 σ.2.2.2.2 = (2, n.toNatClampNeg) := mc_row_eq
  have key := kk H1 (h.make hn ⟨by simp, by simp⟩ z1 o1 ⟨fun q => ?_, fun _ => ?_, fun q => ?_, fun q => ?_⟩) (mc_S_grow hS z1 o1)
  · rw [had] at key; exact key
  · rw [hrow] at q; cases q
  · rw [hrow, had, show (mc_mk σ (2, n.toNatClampNeg)).1 σ.2.2.2.2 = fun _ => 0 from mc_row_eq]
    exact mc_arr_new e1 (fun N z => ⟨(fun k h => by cases h), kA, f2, comp, f3⟩) f1
  · rw [hrow] at q; cases q
  · rw [hrow] at q; cases q
theorem mc_newL (hx : p.tables.exec = Jvm.exec) (hb : c.code = cc) (hw : (Cond.arrayClass .long).before args s = true) (h : mc_Dy D ra B s σ H) (hS : va_S (mc_A B) s.heap H locs) {n : Int32} (hn : 10 ≤ σ.2.2.2.2) (h0 : ¬ n < 0) (h3 : n.toNatClampNeg ≤ 1000) (h1 : cells + 1 ≤ R.cells) (h2 : slots + n.toNatClampNeg ≤ R.slots) (hdg : decode cc pc = .ok (.newarray .long, 2))
    (kk : ∀ H1 : Heap, mc_Dy D ra B s (mc_mk σ (4, n.toNatClampNeg)) H1 → va_S (mc_A B) s.heap H1 locs → W p l e R s m args below meth c H1 locs (cells + 1) (slots + n.toNatClampNeg) Q (F0 m (pc + 2) ls (.ref (mc_ad ra B σ.2.2.2.2) :: rest))) : W p l e R s m args below meth c H locs cells slots Q (F0 m pc ls (.int n :: rest)) := by
  refine W.newa (atype := .long) hx hb hw (g := F0 m pc ls (.int n :: rest)) rfl hdg (rest := rest) rfl h0 (show n.toNatClampNeg * 8 ≤ 536870912 by omega) h1 h2 fun cA kA comp f1 f2 f3 => ?_
  generalize hH1 : H.push ({ cls := cA, slots := Array.replicate n.toNatClampNeg (defaultValue (newarray.typeOf .long)), vm := .none } : Cell) = H1
  have z1 : H1.size = H.size + 1 := by rw [← hH1, Array.size_push]
  have e1 : H1[H.size]? = some (arrV cA n.toNatClampNeg (fun _ => .long 0)) := by rw [← hH1, Array.getElem?_push_size, ← arrV_new]; rfl
  have o1 : ∀ q : Nat, q < H.size → H1[q]? = H[q]? := fun q hq => by rw [← hH1, Array.getElem?_push, if_neg (Nat.ne_of_lt hq)]
  have had := mc_ad_next h hn
  have hrow : (mc_mk σ (4, n.toNatClampNeg)).2.2.2.1 σ.2.2.2.2 = (4, n.toNatClampNeg) := mc_row_eq
  have key := kk H1 (h.make hn ⟨by simp, by simp⟩ z1 o1 ⟨fun q => ?_, fun q => ?_, fun q => ?_, fun _ => ?_⟩) (mc_S_grow hS z1 o1)
  · rw [had] at key; exact key
  · rw [hrow] at q; cases q
  · rw [hrow] at q; cases q
  · rw [hrow] at q; cases q
  · rw [hrow, had, show (mc_mk σ (4, n.toNatClampNeg)).2.1 σ.2.2.2.2 = fun _ => 0 from mc_row_eq]
    exact mc_arr_new e1 (fun N z => ⟨(fun k h => by cases h), kA, f2, comp, f3⟩) f1
theorem mc_newA (hx : p.tables.exec = Jvm.exec) (hb : c.code = cc) {own : String} {idx : Nat} (hown : s.vm.findClass own = some m.cls) (hcl : (Cond.classLink own idx "PaletteReel$Frame").before args s = true) (hov : (Cond.arrayOver (.object "PaletteReel$Frame")).before args s = true) (h : mc_Dy D ra B s σ H) (hS : va_S (mc_A B) s.heap H locs) {n : Int32} (hn : 10 ≤ σ.2.2.2.2) (h0 : ¬ n < 0) (h3 : n.toNatClampNeg ≤ 1000) (h1 : cells + 1 ≤ R.cells) (h2 : slots + n.toNatClampNeg ≤ R.slots) (hdg : decode cc pc = .ok (.anewarray idx, 3))
    (kk : ∀ H1 : Heap, mc_Dy D ra B s (mc_mk σ (3, n.toNatClampNeg)) H1 → va_S (mc_A B) s.heap H1 locs → W p l e R s m args below meth c H1 locs (cells + 1) (slots + n.toNatClampNeg) Q (F0 m (pc + 3) ls (.ref (mc_ad ra B σ.2.2.2.2) :: rest))) : W p l e R s m args below meth c H locs cells slots Q (F0 m pc ls (.int n :: rest)) := by
  refine W.anew hx hb hown hcl hov rfl hdg rfl h0 (by omega) h1 h2 fun cA kA comp f1 f2 f3 f4 => ?_
  generalize hH1 : H.push ({ cls := cA, slots := Array.replicate n.toNatClampNeg .null, vm := .none } : Cell) = H1
  have z1 : H1.size = H.size + 1 := by rw [← hH1, Array.size_push]
  have e1 : H1[H.size]? = some (arrV cA n.toNatClampNeg (fun _ => .null)) := by rw [← hH1, Array.getElem?_push_size, ← arrV_new]
  have o1 : ∀ q : Nat, q < H.size → H1[q]? = H[q]? := fun q hq => by rw [← hH1, Array.getElem?_push, if_neg (Nat.ne_of_lt hq)]
  have had := mc_ad_next h hn
  have hrow : (mc_mk σ (3, n.toNatClampNeg)).2.2.2.1 σ.2.2.2.2 = (3, n.toNatClampNeg) := mc_row_eq
  have key := kk H1 (h.make hn ⟨by simp, by simp⟩ z1 o1 ⟨fun q => ?_, fun q => ?_, fun _ => ?_, fun q => ?_⟩) (mc_S_grow hS z1 o1)
  · rw [had] at key; exact key
  · rw [hrow] at q; cases q
  · rw [hrow] at q; cases q
  · rw [hrow, had, show (mc_mk σ (3, n.toNatClampNeg)).2.2.1 σ.2.2.2.2 = fun _ => 0 from mc_row_eq]
    exact mc_arr_new e1 (fun N z => ⟨(fun k h => by cases h), kA, f2, comp, f3⟩) ⟨kA, comp, f2, f3, f4, f1⟩
  · rw [hrow] at q; cases q
end
