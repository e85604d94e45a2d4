theorem th_hs : ∀ mi, mi < 206 → pg_oc mi = 0 → pg_hs mi = [] := by decide +kernel
theorem th_shape {mi pc n X Y i : Nat} {r : List mc_E} (h : ck_th mi ((pc, .new i, n, X, Y, 1) :: r) = true) :
    ∃ p1 p2 p3 p4 w1 w2 w3 w4 r' b j, (r = (p1, .dup, 1, w1) :: (p2, .ldc b, 2, w2) :: (p3, .invokespecial j, 3, w3) :: (p4, .athrow, 1, w4) :: r' ∨ r = (p1, .dup, 1, w1) :: (p2, .ldc_w b, 3, w2) :: (p3, .invokespecial j, 3, w3) :: (p4, .athrow, 1, w4) :: r') ∧ lk_has (pg_oc mi) b 12 b = true ∧ lk_has (pg_oc mi) j 3 X = true := by
  unfold ck_th at h
  rw [Bool.and_eq_true] at h
  replace h := h.1
  rw [Bool.or_eq_true] at h
  rcases h with h | h
  · cases h
  · split at h
    · rw [Bool.and_eq_true] at h
      exact ⟨_, _, _, _, _, _, _, _, _, _, _, Or.inl rfl, h.1, h.2⟩
    · rw [Bool.and_eq_true] at h
      exact ⟨_, _, _, _, _, _, _, _, _, _, _, Or.inr rfl, h.1, h.2⟩
    · cases h
theorem th_next {mi pc : Nat} {e0 e1 e2 e3 e4 : mc_E} {r : List mc_E} (h : mc_from mi pc = e0 :: e1 :: e2 :: e3 :: e4 :: r) : e0.1 + e0.2.2.1 = e1.1 ∧ e1.1 + e1.2.2.1 = e2.1 ∧ e2.1 + e2.2.2.1 = e3.1 ∧ e3.1 + e3.2.2.1 = e4.1 := by
  obtain ⟨-, pre, h2⟩ := mc_from_split h
  have ha := mc_adjs mi
  rw [h2] at ha
  refine ⟨mc_adj_next pre e0 e1 _ ha, mc_adj_next (pre ++ [e0]) e1 e2 _ (by simpa using ha), mc_adj_next (pre ++ [e0, e1]) e2 e3 _ (by simpa using ha), mc_adj_next (pre ++ [e0, e1, e2]) e3 e4 _ (by simpa using ha)⟩
theorem th_sr {o b : Nat} (h : lk_has o b 12 b = true) : b ∈ pg_sr := by
  unfold lk_has at h
  obtain ⟨⟨q1, q2, q3, q4, q5⟩, hq, hb⟩ := List.any_eq_true.mp h
  simp only [Bool.and_eq_true] at hb
  obtain ⟨⟨⟨e1, e2⟩, e3⟩, e4⟩ := hb
  cases Nat.eq_of_beq_eq_true e2
  refine List.mem_map.mpr ⟨_, List.mem_filter.mpr ⟨hq, e3⟩, rfl⟩
section
variable {p : Program} {l : Launch} {e : Env} {s : State} {m : MethodId} {args : Array Value} {below : List Frame} {meth : Method} {c : Code} {H : Heap} {locs : List Loc}
variable {D : va_G} {ra : Nat → Nat} {B : Nat} {v1 v2 : Value} {ls : Array Slot} {mi pc n X Y : Nat} {L : List Value} {σ : mc_M} {u : mc_U} {Q : mc_Q}
set_option maxHeartbeats 400000 in
theorem ct_throw {i : Nat} {r : List mc_E} (hf : mc_from mi pc = (pc, .new i, n, X, Y, 1) :: r) (Cx : mc_Cx p l s m meth c mi) (St : mc_St D ra B v1 v2 s s.heap) (hB : B ≤ s.heap.size) (hl : mc_lr ra B ls (pg_nl mi) L) (hD : mc_Dy D ra B s σ H) (hS : va_S (mc_A B) s.heap H locs) (hu1 : u.1 + 1 ≤ (pg_cs mi).1) (hu2 : u.2 + 6 ≤ (pg_cs mi).2)
    (hQ : Q (.inr X) (σ.1, σ.2.1, σ.2.2.1, σ.2.2.2.1, 0)) : W p l e (mc_rm mi) s m args below meth c H locs u.1 u.2 (mc_MQ D ra B below Q s (pg_cs mi).1 (pg_cs mi).2) (F0 m pc ls []) := by
  obtain ⟨hm, -, hth, hall⟩ := en_th hf
  have hlt := mi_lt hm
  have hn : (Nat.beq n 3 && ((Nat.beq 1 0 && lk_has (pg_oc mi) i 1 X && Nat.beq Y (pg_nf X) && Nat.blt X 12) || (Nat.beq 1 1 && lk_has (pg_oc mi) i 2 X && Nat.beq (pg_oc mi) 0 && ck_room mi 6 90 && Nat.ble 1 X && Nat.ble X 3))) = true := en_n hm
  simp only [Bool.and_eq_true, Bool.or_eq_true] at hn
  obtain ⟨hn3, hn | ⟨⟨⟨⟨⟨-, hk⟩, ho⟩, hrm⟩, hX1⟩, hX3⟩⟩ := hn
  · cases hn.1.1.1
  have hn3 := Nat.eq_of_beq_eq_true hn3
  subst hn3
  have ho := Nat.eq_of_beq_eq_true ho
  have hX1 := Nat.le_of_ble_eq_true hX1
  have hX3 := Nat.le_of_ble_eq_true hX3
  have hrm := rm_ok hrm
  obtain ⟨p1, p2, p3, p4, w1, w2, w3, w4, r', b, j, hr, hb, hj⟩ := th_shape hth
  have hjc := th_lk hj
  have hd0 : decode (pg_by mi) pc = .ok (.new i, 3) := en_dec (e := (pc, .new i, 3, X, Y, 1)) hm
  have hnohs : c.exceptionTable.toList = [] := by
    have := Cx.2.2.2.2.2.2.2.1
    rw [th_hs mi hlt ho] at this
    exact List.map_eq_nil_iff.mp this
  have hlk : meth.locks = false := Cx.2.2.2.2.2.1
  intro T hT XX
  have X0 := mc_rebase XX (show u.1 ≤ (mc_rm mi).cells from Nat.le_of_succ_le hu1) (show u.2 ≤ (mc_rm mi).slots from Nat.le_trans (Nat.le_add_right _ _) hu2)
  generalize hs' : T.setFrames (.invoking m args :: below) = s' at X0
  have hvm : s'.vm = T.vm := by rw [← hs']; rfl
  have hhp : s'.heap = H := by rw [← hs', ← hT]; rfl
  have hW' : s.WarmedH s'.vm := by rw [hvm]; exact XX.warmed
  have St' : mc_St D ra B v1 v2 s' s'.heap := St.warm hW' (fun q hq => by rw [hhp]; exact hS.2.1 q (by omega) (by show ¬ B ≤ q; omega))
  have hown : s'.vm.findClass "PaletteReel" = some m.cls := by
    have := Cx.2.2.2.2.1
    rw [ho] at this
    rw [hW'.alike.findClass]
    exact this
  obtain ⟨hfit, hins, hini⟩ := th_fit hX1 hX3
  have hinsB : (Cond.instantiable (pg_ex X) 6).before args s' = true := St'.2.1 _ (pg_in rfl hins) args
  obtain ⟨cX, kX0, hfc, hkX0, -⟩ := Cond.instantiable_spec hinsB
  have hcl : (Cond.classLink "PaletteReel" i (pg_ex X)).before args s' = true := by
    have := lk_in hk
    rw [ho] at this
    exact St'.2.1 _ (pg_in rfl this) args
  have hatoms : ∀ a ∈ Bundle.ownAtoms "PaletteReel" j (pg_ex X) th_nm, a.before args s' = true := by
    intro a ha
    rw [hjc] at ha
    have h1 := List.all_eq_true.mp (th_at hX1 hX3) a ha
    unfold th_ok at h1
    rw [Bool.or_eq_true, Bool.and_eq_true] at h1
    rcases h1 with h1 | h1
    · have h2 := of_decide_eq_true h1
      obtain ⟨z1, z2, z3, z4⟩ := St'.2.2.2.2.1
      rcases List.mem_cons.mp h2 with rfl | h2
      · exact z1.lays args
      rcases List.mem_cons.mp h2 with rfl | h2
      · exact z2.lays args
      rcases List.mem_cons.mp h2 with rfl | h2
      · exact z1.ref z3 args
      rcases List.mem_cons.mp h2 with rfl | h2
      · exact z2.ref z4 args
      · cases h2
    · exact St'.2.1 _ (pg_in h1.2 (of_decide_eq_true h1.1)) args
  obtain ⟨q, hvk⟩ := St'.2.2.2.2.2 b (th_sr hb)
  have htr : e.platform.stackTraces = false := Launch.traces_off Cx.2.2.2.2.2.2.2.2 XX.admits
  have hsize : ls.size = c.maxLocals := by rw [hl.1, Cx.2.2.1]
  have last : ∀ (H1 : Heap) (kC : Class) (pc3 : Nat), s'.vm.classes[cX]? = some kC → H1[H.size]? = some (blank cX kC) → decode (pg_by mi) pc3 = .ok (.invokespecial j, 3) → decode (pg_by mi) (pc3 + 3) = .ok (.athrow, 1) →
      W p l e { frames := (mc_rm mi).frames, cells := (mc_rm mi).cells - u.1, slots := (mc_rm mi).slots - u.2, locals := (mc_rm mi).locals } s' m args below meth c H1 [] (0 + 1) (0 + 6) (fun t => t.status = .running ∧ Ended t below (.threw H.size) ∧ s'.WarmedH t.vm ∧ s'.sameButNew ({ t with vm := s'.vm } : State) [] (0 + 1) (0 + 6) ∧ ∃ ce, t.heap[H.size]? = some ce ∧ ce.vm = .none ∧ s'.vm.findClass (pg_ex X) = some ce.cls) (F0 m pc3 ls [.ref q, .ref H.size, .ref H.size]) := by
    intro H1 kC pc3 hkC e1 d6 d9 T2 hT2 X2
    obtain ⟨U, g1, g2, g3, g4, g5, ce, g6, g7⟩ := X2.ctorThrowS Cx.1 htr hown hfit (names := th_nm) (by decide +kernel) hatoms (fun _ h => by cases h) hfc hkC (by rw [hT2]; exact e1) (by rw [hhp]; exact Nat.le_refl _) (msg := .ref q) rfl (g := F0 m pc3 ls [.ref q, .ref H.size, .ref H.size]) rfl hsize rfl rfl (rest := []) rfl (by rw [Cx.2.1]; exact d6) (by rw [Cx.2.1]; exact d9) (by rw [hnohs]; intro x hx; cases hx) (show 2 + 3 < (mc_rm mi).frames from hrm.1) (show 2 * 0 + 1 + (13 * 3 + 42) ≤ (mc_rm mi).locals by have := hrm.2; omega)
    exact ⟨U, g1, g2, g3, g4, g5, ce, g6, g7.vm, g7.cls⟩
  have walk : W p l e { frames := (mc_rm mi).frames, cells := (mc_rm mi).cells - u.1, slots := (mc_rm mi).slots - u.2, locals := (mc_rm mi).locals } s' m args below meth c H [] 0 0 (fun t => t.status = .running ∧ Ended t below (.threw H.size) ∧ s'.WarmedH t.vm ∧ s'.sameButNew ({ t with vm := s'.vm } : State) [] (0 + 1) (0 + 6) ∧ ∃ ce, t.heap[H.size]? = some ce ∧ ce.vm = .none ∧ s'.vm.findClass (pg_ex X) = some ce.cls) (F0 m pc ls []) := by
    refine W.newcK Cx.1 Cx.2.1 hown hcl hinsB (St'.2.1 _ (pg_in rfl hini) args) rfl hd0 (show 0 + 1 ≤ (mc_rm mi).cells - u.1 by have : u.1 + 1 ≤ (mc_rm mi).cells := hu1; omega) (show 0 + 6 ≤ (mc_rm mi).slots - u.2 by have : u.2 + 6 ≤ (mc_rm mi).slots := hu2; omega) hfc rfl fun H1 kC hkC e1 z1 o1 => ?_
    rcases hr with hr | hr
    · subst hr
      obtain ⟨a1, a2, a3, a4⟩ := th_next hf
      dsimp only at a1 a2 a3 a4
      subst a1; subst a2; subst a3; subst a4
      refine lv_dup Cx.1 Cx.2.1 (en_dec (e := (pc + 3, .dup, 1, w1)) (hall _ (by simp))) rfl ?_
      refine va_ldcS Cx.1 Cx.2.1 hown hvk (en_dec (e := (pc + 3 + 1, .ldc b, 2, w2)) (hall _ (by simp))) ?_
      exact last H1 kC _ hkC e1 (en_dec (e := (pc + 3 + 1 + 2, .invokespecial j, 3, w3)) (hall _ (by simp))) (en_dec (e := (pc + 3 + 1 + 2 + 3, .athrow, 1, w4)) (hall _ (by simp)))
    · subst hr
      obtain ⟨a1, a2, a3, a4⟩ := th_next hf
      dsimp only at a1 a2 a3 a4
      subst a1; subst a2; subst a3; subst a4
      refine lv_dup Cx.1 Cx.2.1 (en_dec (e := (pc + 3, .dup, 1, w1)) (hall _ (by simp))) rfl ?_
      refine th_ldcw Cx.1 Cx.2.1 hown hvk (en_dec (e := (pc + 3 + 1, .ldc_w b, 3, w2)) (hall _ (by simp))) ?_
      exact last H1 kC _ hkC e1 (en_dec (e := (pc + 3 + 1 + 3, .invokespecial j, 3, w3)) (hall _ (by simp))) (en_dec (e := (pc + 3 + 1 + 3 + 3, .athrow, 1, w4)) (hall _ (by simp)))
  obtain ⟨t, st, r1, r2, r3, r4, ce, r5, r6, r7⟩ := walk T hT X0
  rw [← hs'] at r3 r4 r7
  have hFE := mc_unbase XX (fs := .invoking m args :: below) (t := t) r3 r4
  have hkept := mc_same_kept r4
  have hz1 : (T.setFrames (.invoking m args :: below)).heap.size ≤ t.heap.size := r4.2.1
  have hz2 : t.heap.size ≤ (T.setFrames (.invoking m args :: below)).heap.size + 1 := r4.2.2.1
  have hTH : (T.setFrames (.invoking m args :: below)).heap = H := hT
  rw [hTH] at hkept hz1 hz2
  have hal : s.vm.Alike t.vm := hFE.1.alike
  refine ⟨t, st, .threw H.size, r1, r2, ⟨.inr X, _, hQ, ⟨H.size, ce, rfl, r5, r6, ?_⟩, (hD.grow (H1 := t.heap) hz1 hkept (fun q cell hq hc => ?_)).moved hal, ?_⟩, locs ++ [], ?_, ?_⟩
  · rw [hal.findClass, ← XX.warmed.alike.findClass]
    exact r7
  · have hqlt := (Array.getElem?_eq_some_iff.mp hc).1
    have hqe : q = H.size := by omega
    subst hqe
    cases hc.symm.trans r5
    rw [r6]; rfl
  · exact ⟨Nat.le_trans hS.1 hz1, fun q q1 q2 => (hkept q (Nat.lt_of_lt_of_le q1 hS.1)).trans (hS.2.1 q q1 q2)⟩
  · exact ⟨hFE.1, hFE.2.weaken (fun y hy _ => hy) hu1 hu2⟩
  · intro y hy
    rw [List.append_nil] at hy
    exact hS.2.2 y hy
end
