theorem mc_tsw_all {pc d : Nat} {x : Int32} {K : Nat → Prop} : ∀ (l : List Int) (lo : Int), mc_tsw pc x lo l d K → (∀ (j : Nat) (o : Int), l[j]? = some o → x.toInt = lo + j → K ((pc : Int) + o).toNat) ∧ ((∀ j : Nat, j < l.length → ¬ x.toInt = lo + j) → K d)
  | [], _, h => ⟨fun j o hj => by simp at hj, fun _ => h⟩
  | a :: r, lo, h => by
    by_cases h0 : x.toInt = lo
    · refine ⟨fun j o hj hx => ?_, fun hn => absurd (by simpa using h0) (hn 0 (by simp))⟩
      cases j with
      | zero => cases hj; exact h.1 h0
      | succ j => exfalso; rw [h0] at hx; omega
    · obtain ⟨i1, i2⟩ := mc_tsw_all r (lo + 1) (h.2 h0)
      refine ⟨fun j o hj hx => ?_, fun hn => i2 fun j hj q => hn (j + 1) (by simp; omega) (by rw [q]; omega)⟩
      cases j with
      | zero => exact absurd (by rw [hx]; simp) h0
      | succ j => exact i1 j o (by simpa using hj) (by rw [hx]; omega)
section
variable {p : Program} {l : Launch} {e : Env} {s : State} {m : MethodId} {args : Array Value} {below : List Frame} {meth : Method} {c : Code} {H : Heap} {locs : List Loc} {Qz : State → Prop}
variable {D : va_G} {ra : Nat → Nat} {B : Nat} {v1 v2 : Value} {ls : Array Slot} {mi pc n X Y Z : Nat} {L st : List Value} {σ : mc_M} {u : mc_U} {Q : mc_Q}
/-- goes on at a place, the memory as it is -/
abbrev mc_KJ (p : Program) (l : Launch) (e : Env) (s : State) (m : MethodId) (args : Array Value) (below : List Frame) (meth : Method) (c : Code) (Qz : State → Prop) (ra : Nat → Nat) (B mi : Nat) (H : Heap) (locs : List Loc) (ls : Array Slot) (u : mc_U) (t : Nat) (st : List Value) : Prop :=
  W p l e (mc_rm mi) s m args below meth c H locs u.1 u.2 Qz (F0 m t ls (mc_T ra B st))
theorem ct_if {cd : ClassFile.Cond} {off : Int} {v : Int32} (Cx : mc_Cx p l s m meth c mi) (hd : decode (pg_by mi) pc = .ok (.ifCond cd off, 3)) (ht : (pc : Int) + off = (X : Int))
    (h : (mc_c cd v 0 → mc_KJ p l e s m args below meth c Qz ra B mi H locs ls u X st) ∧ (¬ mc_c cd v 0 → mc_KJ p l e s m args below meth c Qz ra B mi H locs ls u (pc + 3) st)) : mc_KJ p l e s m args below meth c Qz ra B mi H locs ls u pc (.int v :: st) := by
  cases cd with
  | eq => exact lv_if_eq Cx.1 Cx.2.1 hd ht h.1 h.2
  | ne => exact lv_if_ne Cx.1 Cx.2.1 hd ht h.1 (fun q => h.2 (fun hn => hn q))
  | lt => exact lv_if_lt Cx.1 Cx.2.1 hd ht h.1 h.2
  | ge => exact lv_if_ge Cx.1 Cx.2.1 hd ht h.1 h.2
  | gt => exact lv_if_gt Cx.1 Cx.2.1 hd ht h.1 h.2
  | le => exact lv_if_le Cx.1 Cx.2.1 hd ht h.1 h.2
theorem ct_icmp {cd : ClassFile.Cond} {off : Int} {v w : Int32} (Cx : mc_Cx p l s m meth c mi) (hd : decode (pg_by mi) pc = .ok (.if_icmp cd off, 3)) (ht : (pc : Int) + off = (X : Int))
    (h : (mc_c cd v w → mc_KJ p l e s m args below meth c Qz ra B mi H locs ls u X st) ∧ (¬ mc_c cd v w → mc_KJ p l e s m args below meth c Qz ra B mi H locs ls u (pc + 3) st)) : mc_KJ p l e s m args below meth c Qz ra B mi H locs ls u pc (.int w :: .int v :: st) := by
  cases cd with
  | eq => exact lv_icmp_eq Cx.1 Cx.2.1 hd ht h.1 h.2
  | ne => exact lv_icmp_ne Cx.1 Cx.2.1 hd ht h.1 (fun q => h.2 (fun hn => hn q))
  | lt => exact lv_icmp_lt Cx.1 Cx.2.1 hd ht h.1 h.2
  | ge => exact lv_icmp_ge Cx.1 Cx.2.1 hd ht h.1 h.2
  | gt => exact lv_icmp_gt Cx.1 Cx.2.1 hd ht h.1 h.2
  | le => exact lv_icmp_le Cx.1 Cx.2.1 hd ht h.1 h.2
theorem ct_switch {d lo hi : Int} {offs : Array Int} {v : Int32} (Cx : mc_Cx p l s m meth c mi) (hd : decode (pg_by mi) pc = .ok (.tableswitch d lo hi offs, n)) (ht : (pc : Int) + d = (X : Int)) (hh : hi = lo + (offs.toList.length : Int) - 1) (ho : ∀ o ∈ offs.toList, 0 ≤ (pc : Int) + o)
    (h : mc_tsw pc v lo offs.toList X (fun t => mc_KJ p l e s m args below meth c Qz ra B mi H locs ls u t st)) : mc_KJ p l e s m args below meth c Qz ra B mi H locs ls u pc (.int v :: st) := by
  obtain ⟨h1, h2⟩ := mc_tsw_all _ _ h
  by_cases a1 : v.toInt < lo
  · exact lv_tableOut Cx.1 Cx.2.1 hd (Or.inl a1) ht (h2 fun j _ q => by omega)
  · by_cases a2 : hi < v.toInt
    · exact lv_tableOut Cx.1 Cx.2.1 hd (Or.inr a2) ht (h2 fun j hj q => by omega)
    · have hj : (v.toInt - lo).toNat < offs.toList.length := by omega
      have he : offs.toList[(v.toInt - lo).toNat]? = some offs.toList[(v.toInt - lo).toNat] := List.getElem?_eq_getElem hj
      have h3 := h1 _ _ he (by omega)
      have h4 := ho _ (List.getElem_mem hj)
      exact lv_tableIn Cx.1 Cx.2.1 hd a1 a2 (by rw [← Array.getElem?_toList]; exact he) (by rw [Int.toNat_of_nonneg h4]) h3
/-- the ends -/
theorem mc_Qc_ret {o : Option Value} (hD : mc_Dy D ra B s σ H) (hS : va_S (mc_A B) s.heap H locs) (hQ : Q (.inl o) σ) (t : State) (ht : t.heap = H) (hW : s.WarmedH t.vm) : mc_Qc D ra B Q s (.returned (o.map (mc_tv ra B))) t :=
  ⟨.inl o, σ, hQ, rfl, by rw [ht]; exact hD.moved hW.alike, hS.F ht⟩
theorem ct_iret {v : Int32} (Cx : mc_Cx p l s m meth c mi) (hd : decode (pg_by mi) pc = .ok (.ireturn, 1)) (hr : pg_rt mi = some .int ∨ (pg_rt mi = some .boolean ∧ (v = 0 ∨ v = 1))) (hD : mc_Dy D ra B s σ H) (hS : va_S (mc_A B) s.heap H locs) (hu1 : u.1 ≤ (pg_cs mi).1) (hu2 : u.2 ≤ (pg_cs mi).2)
    (hQ : Q (.inl (some (.int v))) σ) : W p l e (mc_rm mi) s m args below meth c H locs u.1 u.2 (mc_MQ D ra B below Q s (pg_cs mi).1 (pg_cs mi).2) (F0 m pc ls [.int v]) := by
  refine W.widen hu1 hu2 (mc_Wweak ?_ (fun t h => mc_MQ_of (args := args) h))
  have hlk := Cx.2.2.2.2.2.1
  rcases hr with hr | ⟨hr, hv⟩
  · exact W.iret Cx.1 Cx.2.1 (Cx.2.2.2.1.trans hr) (fun t ht hW => mc_Qc_ret hD hS hQ t ht hW) hS.2.2 hd
  · exact W.zret Cx.1 Cx.2.1 (Cx.2.2.2.1.trans hr) (mc_nar_bool hv).1 (fun t ht hW => mc_Qc_ret hD hS hQ t ht hW) hS.2.2 hd
theorem ct_aret {a : Nat} (Cx : mc_Cx p l s m meth c mi) (hd : decode (pg_by mi) pc = .ok (.areturn, 1)) {rt : FieldType} (hr : pg_rt mi = some rt) (hrt : isReferenceType rt = true) (hD : mc_Dy D ra B s σ H) (hS : va_S (mc_A B) s.heap H locs) (hu1 : u.1 ≤ (pg_cs mi).1) (hu2 : u.2 ≤ (pg_cs mi).2)
    (hQ : Q (.inl (some (.ref a))) σ) : W p l e (mc_rm mi) s m args below meth c H locs u.1 u.2 (mc_MQ D ra B below Q s (pg_cs mi).1 (pg_cs mi).2) (F0 m pc ls [.ref (mc_ad ra B a)]) := by
  refine W.widen hu1 hu2 (mc_Wweak ?_ (fun t h => mc_MQ_of (args := args) h))
  have hlk := Cx.2.2.2.2.2.1
  have h2 : (∃ n, rt = .object n) ∨ ∃ t, rt = .array t := by
    cases rt with
    | object n => exact Or.inl ⟨n, rfl⟩
    | array t => exact Or.inr ⟨t, rfl⟩
    | _ => cases hrt
  exact W.aret Cx.1 Cx.2.1 (Cx.2.2.2.1.trans hr) h2 (Or.inr ⟨_, rfl⟩) (fun t ht hW => mc_Qc_ret (o := some (.ref a)) hD hS hQ t ht hW) hS.2.2 hd
theorem ct_vret (Cx : mc_Cx p l s m meth c mi) (hd : decode (pg_by mi) pc = .ok (.return_, 1)) (hr : pg_rt mi = none) (hD : mc_Dy D ra B s σ H) (hS : va_S (mc_A B) s.heap H locs) (hu1 : u.1 ≤ (pg_cs mi).1) (hu2 : u.2 ≤ (pg_cs mi).2)
    (hQ : Q (.inl none) σ) : W p l e (mc_rm mi) s m args below meth c H locs u.1 u.2 (mc_MQ D ra B below Q s (pg_cs mi).1 (pg_cs mi).2) (F0 m pc ls []) := by
  refine W.widen hu1 hu2 (mc_Wweak ?_ (fun t h => mc_MQ_of (args := args) h))
  have hlk := Cx.2.2.2.2.2.1
  exact W.vret Cx.1 Cx.2.1 (Cx.2.2.2.1.trans hr) (fun t ht hW => mc_Qc_ret (o := none) hD hS hQ t ht hW) hS.2.2 hd
end
