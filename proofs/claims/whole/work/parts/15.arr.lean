section
variable {p : Program} {l : Launch} {e : Env} {R : Room} {s : State} {m : MethodId} {args : Array Value} {below : List Frame} {meth : Method} {c : Code} {H : Heap} {locs : List Loc} {cells slots : Nat} {Q : State → Prop}
variable {D : va_G} {ra : Nat → Nat} {B : Nat} {cc : ByteArray} {ls : Array Slot} {pc : Nat} {rest : List Value} {σ τ : mc_M}
theorem mc_in_lt {i : Int32} {n : Nat} (h : vp_in i n) : i.toNatClampNeg < n := Nat.not_le.mp fun q => h (Or.inr q)
theorem mc_in_le {i : Int32} {n k : Nat} (h : vp_in i n) (hk : n ≤ k) : vp_in i k := fun q => h (q.imp id (fun z => Nat.le_trans hk z))
/-- a load -/
theorem mc_aldI (hx : p.tables.exec = Jvm.exec) (hb : c.code = cc) (h : mc_Dy D ra B s σ H) {a : Nat} {i : Int32} (hk : (σ.2.2.2.1 a).1 = 2) (hi : vp_in i (σ.2.2.2.1 a).2) (hdg : decode cc pc = .ok (.iaload, 1))
    (kk : W p l e R s m args below meth c H locs cells slots Q (F0 m (pc + 1) ls (.int (σ.1 a i.toNatClampNeg) :: rest))) : W p l e R s m args below meth c H locs cells slots Q (F0 m pc ls (.int i :: .ref (mc_ad ra B a) :: rest)) := by
  obtain ⟨cell, h1, h2, h3, h4, h5, -⟩ := (h.1 a).2.1 hk
  exact W.iald hx hb h1 h2 h3 (mc_in_le hi h4.1) (h5 _ (mc_in_lt hi)) rfl rfl hdg kk
theorem mc_aldL (hx : p.tables.exec = Jvm.exec) (hb : c.code = cc) (h : mc_Dy D ra B s σ H) {a : Nat} {i : Int32} (hk : (σ.2.2.2.1 a).1 = 4) (hi : vp_in i (σ.2.2.2.1 a).2) (hdg : decode cc pc = .ok (.laload, 1))
    (kk : W p l e R s m args below meth c H locs cells slots Q (F0 m (pc + 1) ls (.long (σ.2.1 a i.toNatClampNeg) :: rest))) : W p l e R s m args below meth c H locs cells slots Q (F0 m pc ls (.int i :: .ref (mc_ad ra B a) :: rest)) := by
  obtain ⟨cell, h1, h2, h3, h4, h5, -⟩ := (h.1 a).2.2.2 hk
  exact W.lald hx hb h1 h2 h3 (mc_in_le hi h4.1) (h5 _ (mc_in_lt hi)) rfl rfl hdg kk
theorem mc_aldA (hx : p.tables.exec = Jvm.exec) (hb : c.code = cc) (h : mc_Dy D ra B s σ H) {a : Nat} {i : Int32} (hk : (σ.2.2.2.1 a).1 = 3) (hi : vp_in i (σ.2.2.2.1 a).2) (h0 : ¬ σ.2.2.1 a i.toNatClampNeg = 0) (hdg : decode cc pc = .ok (.aaload, 1))
    (kk : W p l e R s m args below meth c H locs cells slots Q (F0 m (pc + 1) ls (.ref (mc_ad ra B (σ.2.2.1 a i.toNatClampNeg)) :: rest))) : W p l e R s m args below meth c H locs cells slots Q (F0 m pc ls (.int i :: .ref (mc_ad ra B a) :: rest)) := by
  obtain ⟨cell, h1, h2, h3, h4, h5, -⟩ := (h.1 a).2.2.1 hk
  have h6 := h5 _ (mc_in_lt hi)
  dsimp only at h6
  unfold mc_rf at h6
  rw [if_neg h0] at h6
  exact W.aald hx hb h1 h2 rfl h3 (mc_in_le hi h4.1) h6 rfl rfl hdg kk
theorem mc_len (hx : p.tables.exec = Jvm.exec) (hb : c.code = cc) (h : mc_Dy D ra B s σ H) {a : Nat} (hk : 2 ≤ (σ.2.2.2.1 a).1 ∧ (σ.2.2.2.1 a).1 ≤ 4) (hdg : decode cc pc = .ok (.arraylength, 1))
    (kk : W p l e R s m args below meth c H locs cells slots Q (F0 m (pc + 1) ls (.int (Int32.ofNat (σ.2.2.2.1 a).2) :: rest))) : W p l e R s m args below meth c H locs cells slots Q (F0 m pc ls (.ref (mc_ad ra B a) :: rest)) := by
  rcases (show (σ.2.2.2.1 a).1 = 2 ∨ (σ.2.2.2.1 a).1 = 3 ∨ (σ.2.2.2.1 a).1 = 4 by omega) with q | q | q
  · obtain ⟨cell, h1, h2, h3, h4, h5, -⟩ := (h.1 a).2.1 q
    exact W.alen hx hb h1 h2 (by first | exact h4.2 | exact h4.2.symm) rfl rfl hdg kk
  · obtain ⟨cell, h1, h2, h3, h4, h5, -⟩ := (h.1 a).2.2.1 q
    exact W.alen hx hb h1 h2 (by first | exact h4.2 | exact h4.2.symm) rfl rfl hdg kk
  · obtain ⟨cell, h1, h2, h3, h4, h5, -⟩ := (h.1 a).2.2.2 q
    exact W.alen hx hb h1 h2 (by first | exact h4.2 | exact h4.2.symm) rfl rfl hdg kk
/-- a store -/
theorem mc_astI (hx : p.tables.exec = Jvm.exec) (hb : c.code = cc) (h : mc_Dy D ra B s σ H) (hS : va_S (mc_A B) s.heap H locs) {a : Nat} {i v : Int32} (hk : (σ.2.2.2.1 a).1 = 2) (hi : vp_in i (σ.2.2.2.1 a).2) (ha : 10 ≤ a) (hdg : decode cc pc = .ok (.iastore, 1))
    (kk : ∀ (H1 : Heap) (locs1 : List Loc), mc_Dy D ra B s (mc_up σ.1 a i.toNatClampNeg v, σ.2) H1 → va_S (mc_A B) s.heap H1 locs1 → W p l e R s m args below meth c H1 locs1 cells slots Q (F0 m (pc + 1) ls rest)) : W p l e R s m args below meth c H locs cells slots Q (F0 m pc ls (.int v :: .int i :: .ref (mc_ad ra B a) :: rest)) := by
  have harr := (h.1 a).2.1 hk
  obtain ⟨cell, h1, h2, h3, h4, h5, h6⟩ := id harr
  refine W.iast hx hb h1 h2 h3 (mc_in_le hi h4.1) rfl rfl hdg fun H1 e1 e2 e3 => ?_
  refine kk H1 _ (h.write ha (fun b hb => mc_up_ne hb) (fun _ _ => rfl) (fun _ _ => rfl) rfl (by rw [hk]; exact ⟨by decide, by decide⟩) e2 e3 ⟨fun q => ?_, fun _ => ?_, fun q => ?_, fun q => ?_⟩) (hS.put e2 e3 (mc_ad_ge ha))
  · rw [show (mc_up σ.1 a i.toNatClampNeg v, σ.2).2.2.2.1 a = σ.2.2.2.1 a from rfl, hk] at q; cases q
  · refine harr.set (mc_in_lt hi) (x := .int v) (fun c2 hc2 => by cases h1.symm.trans hc2; exact e1) (fun j => ?_)
    show Value.int (mc_up σ.1 a i.toNatClampNeg v a j) = _
    by_cases hj : j = i.toNatClampNeg
    · subst hj; rw [mc_up_eq, if_pos rfl]
    · rw [mc_up_at hj, if_neg hj]
  · rw [show (mc_up σ.1 a i.toNatClampNeg v, σ.2).2.2.2.1 a = σ.2.2.2.1 a from rfl, hk] at q; cases q
  · rw [show (mc_up σ.1 a i.toNatClampNeg v, σ.2).2.2.2.1 a = σ.2.2.2.1 a from rfl, hk] at q; cases q
theorem mc_astL (hx : p.tables.exec = Jvm.exec) (hb : c.code = cc) (h : mc_Dy D ra B s σ H) (hS : va_S (mc_A B) s.heap H locs) {a : Nat} {i : Int32} {v : Int64} (hk : (σ.2.2.2.1 a).1 = 4) (hi : vp_in i (σ.2.2.2.1 a).2) (ha : 10 ≤ a) (hdg : decode cc pc = .ok (.lastore, 1))
    (kk : ∀ (H1 : Heap) (locs1 : List Loc), mc_Dy D ra B s (σ.1, mc_up σ.2.1 a i.toNatClampNeg v, σ.2.2) H1 → va_S (mc_A B) s.heap H1 locs1 → W p l e R s m args below meth c H1 locs1 cells slots Q (F0 m (pc + 1) ls rest)) : W p l e R s m args below meth c H locs cells slots Q (F0 m pc ls (.long v :: .int i :: .ref (mc_ad ra B a) :: rest)) := by
  have harr := (h.1 a).2.2.2 hk
  obtain ⟨cell, h1, h2, h3, h4, h5, h6⟩ := id harr
  refine W.last hx hb h1 h2 h3 (mc_in_le hi h4.1) rfl rfl hdg fun H1 e1 e2 e3 => ?_
  refine kk H1 _ (h.write ha (fun _ _ => rfl) (fun b hb => mc_up_ne hb) (fun _ _ => rfl) rfl (by rw [hk]; exact ⟨by decide, by decide⟩) e2 e3 ⟨fun q => ?_, fun q => ?_, fun q => ?_, fun _ => ?_⟩) (hS.put e2 e3 (mc_ad_ge ha))
  · rw [show (σ.1, mc_up σ.2.1 a i.toNatClampNeg v, σ.2.2).2.2.2.1 a = σ.2.2.2.1 a from rfl, hk] at q; cases q
  · rw [show (σ.1, mc_up σ.2.1 a i.toNatClampNeg v, σ.2.2).2.2.2.1 a = σ.2.2.2.1 a from rfl, hk] at q; cases q
  · rw [show (σ.1, mc_up σ.2.1 a i.toNatClampNeg v, σ.2.2).2.2.2.1 a = σ.2.2.2.1 a from rfl, hk] at q; cases q
  · refine harr.set (mc_in_lt hi) (x := .long v) (fun c2 hc2 => by cases h1.symm.trans hc2; exact e1) (fun j => ?_)
    show Value.long (mc_up σ.2.1 a i.toNatClampNeg v a j) = _
    by_cases hj : j = i.toNatClampNeg
    · subst hj; rw [mc_up_eq, if_pos rfl]
    · rw [mc_up_at hj, if_neg hj]
theorem mc_astA (hx : p.tables.exec = Jvm.exec) (hb : c.code = cc) (h : mc_Dy D ra B s σ H) (hK : va_K D pg_cl [] s) (hS : va_S (mc_A B) s.heap H locs) {a v : Nat} {i : Int32} (hk : (σ.2.2.2.1 a).1 = 3) (hi : vp_in i (σ.2.2.2.1 a).2) (ha : 10 ≤ a) (hv : σ.2.2.2.1 v = (1, 4)) (hv0 : ¬ v = 0) (hdg : decode cc pc = .ok (.aastore, 1))
    (kk : ∀ (H1 : Heap) (locs1 : List Loc), mc_Dy D ra B s (σ.1, σ.2.1, mc_up σ.2.2.1 a i.toNatClampNeg v, σ.2.2.2) H1 → va_S (mc_A B) s.heap H1 locs1 → W p l e R s m args below meth c H1 locs1 cells slots Q (F0 m (pc + 1) ls rest)) : W p l e R s m args below meth c H locs cells slots Q (F0 m pc ls (.ref (mc_ad ra B v) :: .int i :: .ref (mc_ad ra B a) :: rest)) := by
  have harr := (h.1 a).2.2.1 hk
  obtain ⟨cell, h1, h2, h3, h4, h5, h6⟩ := id harr
  obtain ⟨kA, comp, k1, k2, k3, k4⟩ := h6 _ rfl
  obtain ⟨r, hr, cellV, g1, g2, g3, -⟩ := (h.1 v).1 (by rw [hv])
  rw [hv] at hr g2
  have hr4 : r = ("PaletteReel$Frame", fd_4, 10) := by cases hr; rfl
  subst hr4
  have hcls := (hK.1 4 _ hr).2
  have hcomp : comp = D.1 4 := Option.some.inj (k3.symm.trans hcls.1)
  subst hcomp
  obtain ⟨kC, hkC, -⟩ := hcls.2
  obtain ⟨n1, n2⟩ := h2
  refine W.aast hx hb h1 n1 h3 k1 k2 rfl hkC ⟨fun q => hi (Or.inl q), Nat.lt_of_lt_of_le (mc_in_lt hi) h4.1⟩ g1 (fun q h => by rw [g3] at h; cases h) (by rw [g2]; exact hkC) (by rw [g2]; exact va_assign hcls) rfl rfl hdg fun H1 e1 e2 e3 => ?_
  refine kk H1 _ (h.write ha (fun _ _ => rfl) (fun _ _ => rfl) (fun b hb => mc_up_ne hb) rfl (by rw [hk]; exact ⟨by decide, by decide⟩) e2 e3 ⟨fun q => ?_, fun q => ?_, fun _ => ?_, fun q => ?_⟩) (hS.put e2 e3 (mc_ad_ge ha))
  · rw [show (σ.1, σ.2.1, mc_up σ.2.2.1 a i.toNatClampNeg v, σ.2.2.2).2.2.2.1 a = σ.2.2.2.1 a from rfl, hk] at q; cases q
  · rw [show (σ.1, σ.2.1, mc_up σ.2.2.1 a i.toNatClampNeg v, σ.2.2.2).2.2.2.1 a = σ.2.2.2.1 a from rfl, hk] at q; cases q
  · refine harr.set (mc_in_lt hi) (x := .ref (mc_ad ra B v)) (fun c2 hc2 => by cases h1.symm.trans hc2; exact e1) (fun j => ?_)
    show mc_rf ra B (mc_up σ.2.2.1 a i.toNatClampNeg v a j) = _
    by_cases hj : j = i.toNatClampNeg
    · subst hj; rw [mc_up_eq, if_pos rfl]; unfold mc_rf; rw [if_neg hv0]
    · rw [mc_up_at hj, if_neg hj]
  · rw [show (σ.1, σ.2.1, mc_up σ.2.2.1 a i.toNatClampNeg v, σ.2.2.2).2.2.2.1 a = σ.2.2.2.1 a from rfl, hk] at q; cases q
end
