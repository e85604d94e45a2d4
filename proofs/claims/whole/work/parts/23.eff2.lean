theorem mc_tv_cat {ra : Nat → Nat} {B : Nat} (v : Value) : (mc_tv ra B v).category = v.category := by cases v <;> rfl
theorem mc_T_cat {ra : Nat → Nat} {B : Nat} (st : List Value) : ((mc_T ra B st).map fun v => v.category).sum = (st.map fun v => v.category).sum := by
  congr 1
  unfold mc_T
  rw [List.map_map]
  exact List.map_congr_left fun v _ => mc_tv_cat v
theorem mc_lt_inv {st : List Value} {y : Nat} {k : mc_R} {R : Option Prop × List Value × List Value × mc_M × mc_U} (h : mc_lt st y k = some R) : ((st.drop y).map fun v => v.category).sum ≤ 8 ∧ k = some R := by
  unfold mc_lt at h
  split at h
  · rename_i hb
    exact ⟨Nat.le_of_ble_eq_true hb, h⟩
  · cases h
section
variable {p : Program} {l : Launch} {e : Env} {s : State} {m : MethodId} {args : Array Value} {below : List Frame} {meth : Method} {c : Code} {H : Heap} {locs : List Loc} {Q : State → Prop}
variable {D : va_G} {ra : Nat → Nat} {B : Nat} {v1 v2 : Value} {ls : Array Slot} {mi pc n X Y Z : Nat} {L st L' st' : List Value} {σ σ' : mc_M} {u u' : mc_U} {o : Option Prop}
theorem es_new {i : Nat} (hn : ck_n mi (pc, .new i, n, X, Y, Z) = true) (hd : decode (pg_by mi) pc = .ok (.new i, n)) (h : mc_eff (pg_cs mi) (pc, .new i, n, X, Y, Z) L st σ u = some (o, L', st', σ', u')) (ho : ∀ O, o = some O → O)
    (Cx : mc_Cx p l s m meth c mi) (St : mc_St D ra B v1 v2 s s.heap) (hl : mc_lr ra B ls (pg_nl mi) L) (hD : mc_Dy D ra B s σ H) (hS : va_S (mc_A B) s.heap H locs)
    (kk : mc_KK p l e s m args below meth c Q D ra B mi (pc + n) L' st' σ' u') : W p l e (mc_rm mi) s m args below meth c H locs u.1 u.2 Q (F0 m pc ls (mc_T ra B st)) := by
  replace hn : (Nat.beq n 3 && ((Nat.beq Z 0 && lk_has (pg_oc mi) i 1 X && Nat.beq Y (pg_nf X) && Nat.blt X 12) || (Nat.beq Z 1 && lk_has (pg_oc mi) i 2 X && Nat.beq (pg_oc mi) 0 && ck_room mi 6 90 && Nat.ble 1 X && Nat.ble X 3))) = true := hn
  rw [Bool.and_eq_true, Bool.or_eq_true] at hn
  obtain ⟨hn3, hn⟩ := hn
  cases Nat.eq_of_beq_eq_true hn3
  rcases hn with hn | hn
  · simp only [Bool.and_eq_true] at hn
    obtain ⟨⟨⟨hz, hk⟩, hy⟩, hx⟩ := hn
    cases Nat.eq_of_beq_eq_true hz
    cases Nat.eq_of_beq_eq_true hy
    obtain ⟨r, hr, hrn, hrc⟩ := cl_at (Nat.le_of_ble_eq_true hx)
    cases (show some (some (10 ≤ σ.2.2.2.2 ∧ u.1 + 1 ≤ (pg_cs mi).1 ∧ u.2 + pg_nf X ≤ (pg_cs mi).2), L, Value.ref σ.2.2.2.2 :: st, mc_mk σ (1, X), (u.1 + 1, u.2 + pg_nf X)) = some (o, L', st', σ', u') from h)
    obtain ⟨g1, g2, g3⟩ := ho _ rfl
    have hcl : (Cond.classLink (pg_cn (pg_oc mi)) i r.1).before args s = true := by rw [hrc]; exact St.2.1 _ (pg_in rfl (lk_in hk)) args
    have hins : (Cond.instantiable r.1 r.2.2).before args s = true := by
      have := List.mem_of_getElem? (pg_ins X (Nat.le_of_ble_eq_true hx))
      rw [hrc, hrn]
      exact St.2.1 _ (pg_in rfl this) args
    have hini : (Cond.initialized r.1).before args s = true := by
      have := List.mem_of_getElem? (pg_ini X (Nat.lt_of_lt_of_le (Nat.le_of_ble_eq_true hx : X < 12) (by decide)))
      rw [hrc]
      exact St.2.1 _ (pg_in rfl this) args
    refine mc_newO Cx.1 Cx.2.1 Cx.2.2.2.2.1 St.1 St.2.1 hr hcl hins hini hD hS g1 g2 (by rw [hrn]; exact g3) hd (fun H1 h1 h2 => ?_)
    rw [hrn]
    exact kk H1 locs ls hl h1 h2 g2 g3
  · simp only [Bool.and_eq_true] at hn
    cases Nat.eq_of_beq_eq_true hn.1.1.1.1.1
    cases (show (none : mc_R) = some (o, L', st', σ', u') from h)
theorem es_newI (hn : ck_n mi (pc, .newarray .int, n, X, Y, Z) = true) (hd : decode (pg_by mi) pc = .ok (.newarray .int, n)) (h : mc_eff (pg_cs mi) (pc, .newarray .int, n, X, Y, Z) L st σ u = some (o, L', st', σ', u')) (ho : ∀ O, o = some O → O)
    (Cx : mc_Cx p l s m meth c mi) (St : mc_St D ra B v1 v2 s s.heap) (hl : mc_lr ra B ls (pg_nl mi) L) (hD : mc_Dy D ra B s σ H) (hS : va_S (mc_A B) s.heap H locs)
    (kk : mc_KK p l e s m args below meth c Q D ra B mi (pc + n) L' st' σ' u') : W p l e (mc_rm mi) s m args below meth c H locs u.1 u.2 Q (F0 m pc ls (mc_T ra B st)) := by
  replace hn : (Nat.beq n 2 && Nat.beq X 2) = true := hn
  rw [Bool.and_eq_true] at hn
  cases Nat.eq_of_beq_eq_true hn.1
  cases Nat.eq_of_beq_eq_true hn.2
  obtain ⟨k, r, rfl, q⟩ := mc_newa_inv (b := pg_cs mi) (x := 2) h
  cases q
  obtain ⟨g1, g2, g3, g4, g5⟩ := ho _ rfl
  exact mc_newI Cx.1 Cx.2.1 (St.2.1 _ (pg_in rfl wd_arrI) args) hD hS g1 g2 g3 g4 g5 hd (fun H1 h1 h2 => kk H1 locs ls hl h1 h2 g4 g5)
theorem es_newL (hn : ck_n mi (pc, .newarray .long, n, X, Y, Z) = true) (hd : decode (pg_by mi) pc = .ok (.newarray .long, n)) (h : mc_eff (pg_cs mi) (pc, .newarray .long, n, X, Y, Z) L st σ u = some (o, L', st', σ', u')) (ho : ∀ O, o = some O → O)
    (Cx : mc_Cx p l s m meth c mi) (St : mc_St D ra B v1 v2 s s.heap) (hl : mc_lr ra B ls (pg_nl mi) L) (hD : mc_Dy D ra B s σ H) (hS : va_S (mc_A B) s.heap H locs)
    (kk : mc_KK p l e s m args below meth c Q D ra B mi (pc + n) L' st' σ' u') : W p l e (mc_rm mi) s m args below meth c H locs u.1 u.2 Q (F0 m pc ls (mc_T ra B st)) := by
  replace hn : (Nat.beq n 2 && Nat.beq X 4) = true := hn
  rw [Bool.and_eq_true] at hn
  cases Nat.eq_of_beq_eq_true hn.1
  cases Nat.eq_of_beq_eq_true hn.2
  obtain ⟨k, r, rfl, q⟩ := mc_newa_inv (b := pg_cs mi) (x := 4) h
  cases q
  obtain ⟨g1, g2, g3, g4, g5⟩ := ho _ rfl
  exact mc_newL Cx.1 Cx.2.1 (St.2.1 _ (pg_in rfl wd_arrL) args) hD hS g1 g2 g3 g4 g5 hd (fun H1 h1 h2 => kk H1 locs ls hl h1 h2 g4 g5)
theorem es_anew {i : Nat} (hn : ck_n mi (pc, .anewarray i, n, X, Y, Z) = true) (hd : decode (pg_by mi) pc = .ok (.anewarray i, n)) (h : mc_eff (pg_cs mi) (pc, .anewarray i, n, X, Y, Z) L st σ u = some (o, L', st', σ', u')) (ho : ∀ O, o = some O → O)
    (Cx : mc_Cx p l s m meth c mi) (St : mc_St D ra B v1 v2 s s.heap) (hl : mc_lr ra B ls (pg_nl mi) L) (hD : mc_Dy D ra B s σ H) (hS : va_S (mc_A B) s.heap H locs)
    (kk : mc_KK p l e s m args below meth c Q D ra B mi (pc + n) L' st' σ' u') : W p l e (mc_rm mi) s m args below meth c H locs u.1 u.2 Q (F0 m pc ls (mc_T ra B st)) := by
  replace hn : (Nat.beq n 3 && Nat.beq X 3 && lk_has (pg_oc mi) i 1 4) = true := hn
  rw [Bool.and_eq_true, Bool.and_eq_true] at hn
  cases Nat.eq_of_beq_eq_true hn.1.1
  cases Nat.eq_of_beq_eq_true hn.1.2
  obtain ⟨k, r, rfl, q⟩ := mc_newa_inv (b := pg_cs mi) (x := 3) h
  cases q
  obtain ⟨g1, g2, g3, g4, g5⟩ := ho _ rfl
  exact mc_newA Cx.1 Cx.2.1 Cx.2.2.2.2.1 (St.2.1 _ (pg_in rfl (lk_in hn.2)) args) (va_AO.use St.2.2.1) hD hS g1 g2 g3 g4 g5 hd (fun H1 h1 h2 => kk H1 locs ls hl h1 h2 g4 g5)
theorem es_getstatic {i : Nat} (hn : ck_n mi (pc, .getstatic i, n, X, Y, Z) = true) (hd : decode (pg_by mi) pc = .ok (.getstatic i, n)) (h : mc_eff (pg_cs mi) (pc, .getstatic i, n, X, Y, Z) L st σ u = some (o, L', st', σ', u'))
    (Cx : mc_Cx p l s m meth c mi) (St : mc_St D ra B v1 v2 s s.heap) (hl : mc_lr ra B ls (pg_nl mi) L) (hD : mc_Dy D ra B s σ H) (hS : va_S (mc_A B) s.heap H locs) (hu1 : u.1 ≤ (pg_cs mi).1) (hu2 : u.2 ≤ (pg_cs mi).2)
    (kk : mc_KK p l e s m args below meth c Q D ra B mi (pc + n) L' st' σ' u') : W p l e (mc_rm mi) s m args below meth c H locs u.1 u.2 Q (F0 m pc ls (mc_T ra B st)) := by
  replace hn : (Nat.beq n 3 && Nat.ble 2 X && Nat.ble X 4 && (lk_has (pg_oc mi) i 8 X || lk_has (pg_oc mi) i 9 X)) = true := hn
  rw [Bool.and_eq_true, Bool.and_eq_true, Bool.and_eq_true, Bool.or_eq_true] at hn
  obtain ⟨⟨⟨hn3, h2⟩, h4⟩, hk⟩ := hn
  cases Nat.eq_of_beq_eq_true hn3
  have h2 := Nat.le_of_ble_eq_true h2
  have h4 := Nat.le_of_ble_eq_true h4
  cases (show some ((none : Option Prop), L, Value.ref X :: st, σ, u) = some (o, L', st', σ', u') from h)
  have hz := St.2.2.2.1 X h2 h4
  have key := kk H locs ls hl hD hS hu1 hu2
  have had : mc_ad ra B X = ra X := by unfold mc_ad; rw [if_neg (by omega)]
  have key2 : W p l e (mc_rm mi) s m args below meth c H locs u.1 u.2 Q (F0 m (pc + 3) ls (.ref (ra X) :: mc_T ra B st)) := by rw [← had]; exact key
  rcases hk with hk | hk
  · exact va_gets Cx.1 Cx.2.1 hz.va hS Cx.2.2.2.2.1 (St.2.1 _ (pg_in rfl (lk_in hk)) args) (fun _ q => q) hd key2
  · exact va_getsN Cx.1 Cx.2.1 hz.va hS Cx.2.2.2.2.1 (St.2.1 _ (pg_in rfl (lk_in hk)) args) (fun _ q => q) hd key2
theorem es_ldc {i : Nat} (hn : ck_n mi (pc, .ldc i, n, X, Y, Z) = true) (hd : decode (pg_by mi) pc = .ok (.ldc i, n)) (h : mc_eff (pg_cs mi) (pc, .ldc i, n, X, Y, Z) L st σ u = some (o, L', st', σ', u'))
    (Cx : mc_Cx p l s m meth c mi) (St : mc_St D ra B v1 v2 s s.heap) (hl : mc_lr ra B ls (pg_nl mi) L) (hD : mc_Dy D ra B s σ H) (hS : va_S (mc_A B) s.heap H locs) (hu1 : u.1 ≤ (pg_cs mi).1) (hu2 : u.2 ≤ (pg_cs mi).2)
    (kk : mc_KK p l e s m args below meth c Q D ra B mi (pc + n) L' st' σ' u') : W p l e (mc_rm mi) s m args below meth c H locs u.1 u.2 Q (F0 m pc ls (mc_T ra B st)) := by
  replace hn : (Nat.beq n 2 && (!(Nat.beq Z 0) || lk_has (pg_oc mi) i 10 X)) = true := hn
  rw [Bool.and_eq_true] at hn
  cases Nat.eq_of_beq_eq_true hn.1
  cases Z with
  | succ z => cases (show (none : mc_R) = some (o, L', st', σ', u') from h)
  | zero =>
    have hk : lk_has (pg_oc mi) i 10 X = true := hn.2
    cases (show some ((none : Option Prop), L, Value.int (Int32.ofNat X) :: st, σ, u) = some (o, L', st', σ', u') from h)
    exact lv_ldc Cx.1 Cx.2.1 Cx.2.2.2.2.1 (St.2.1 _ (pg_in rfl (lk_in hk)) args) hd (kk H locs ls hl hD hS hu1 hu2)
theorem es_ldc2 {i : Nat} (hn : ck_n mi (pc, .ldc2_w i, n, X, Y, Z) = true) (hd : decode (pg_by mi) pc = .ok (.ldc2_w i, n)) (h : mc_eff (pg_cs mi) (pc, .ldc2_w i, n, X, Y, Z) L st σ u = some (o, L', st', σ', u'))
    (Cx : mc_Cx p l s m meth c mi) (St : mc_St D ra B v1 v2 s s.heap) (hl : mc_lr ra B ls (pg_nl mi) L) (hD : mc_Dy D ra B s σ H) (hS : va_S (mc_A B) s.heap H locs) (hu1 : u.1 ≤ (pg_cs mi).1) (hu2 : u.2 ≤ (pg_cs mi).2)
    (kk : mc_KK p l e s m args below meth c Q D ra B mi (pc + n) L' st' σ' u') : W p l e (mc_rm mi) s m args below meth c H locs u.1 u.2 Q (F0 m pc ls (mc_T ra B st)) := by
  replace hn : (Nat.beq n 3 && lk_has (pg_oc mi) i 11 X) = true := hn
  rw [Bool.and_eq_true] at hn
  cases Nat.eq_of_beq_eq_true hn.1
  cases (show some ((none : Option Prop), L, Value.long (Int64.ofNat X) :: st, σ, u) = some (o, L', st', σ', u') from h)
  exact lv_ldc2 Cx.1 Cx.2.1 Cx.2.2.2.2.1 (St.2.1 _ (pg_in rfl (lk_in hn.2)) args) hd (kk H locs ls hl hD hS hu1 hu2)
theorem es_copy {i : Nat} (hk : lk_has (pg_oc mi) i 6 0 = true) (hrm : ck_room mi 1 48 = true) (hd : decode (pg_by mi) pc = .ok (.invokestatic i, 3)) (h : mc_lt st 5 (mc_copy L st σ u) = some (o, L', st', σ', u')) (ho : ∀ O, o = some O → O)
    (Cx : mc_Cx p l s m meth c mi) (St : mc_St D ra B v1 v2 s s.heap) (hl : mc_lr ra B ls (pg_nl mi) L) (hD : mc_Dy D ra B s σ H) (hS : va_S (mc_A B) s.heap H locs) (hu1 : u.1 ≤ (pg_cs mi).1) (hu2 : u.2 ≤ (pg_cs mi).2)
    (kk : mc_KK p l e s m args below meth c Q D ra B mi (pc + 3) L' st' σ' u') : W p l e (mc_rm mi) s m args below meth c H locs u.1 u.2 Q (F0 m pc ls (mc_T ra B st)) := by
  obtain ⟨hcat, h⟩ := mc_lt_inv h
  obtain ⟨k, dp, b, sp, a, r, rfl, q⟩ := mc_copy_inv h
  cases q
  obtain ⟨ha, hb, hb10, h1, h2, h3, h4, h5⟩ := ho _ rfl
  have hA := (hD.1 a).2.1 ha
  have hBb := (hD.1 b).2.1 hb
  obtain ⟨ca, a1, a2, a3, a4, a5, a6⟩ := id hA
  obtain ⟨cb, b1, b2, b3, b4, b5, b6⟩ := id hBb
  obtain ⟨an, ka, hka, coa, hkka⟩ := a2
  obtain ⟨bn, kb, hkb, cob, hkkb⟩ := b2
  have nn : ∀ z : Int32, ¬ z < 0 → z.toInt = (z.toNatClampNeg : Int) := by
    intro z hz
    have hz0 : (0 : Int) ≤ z.toInt := by
      have := Int32.not_lt.mp hz
      simpa using Int32.le_iff_toInt_le.mp this
    show z.toInt = ((z.toInt.toNat : Nat) : Int)
    omega
  have hget : ∀ j, j < k.toNatClampNeg → ca.slots.getD (sp.toNatClampNeg + j) .null = .int (σ.1 a (sp.toNatClampNeg + j)) := fun j hj => by
    rw [Array.getD_eq_getD_getElem?, a5 _ (by omega)]
    rfl
  intro T hT XX
  have hrm' := rm_ok hrm
  obtain ⟨vm', X', step⟩ := XX.arraycopy Cx.1 Cx.2.2.2.2.1 (St.2.1 _ (pg_in rfl (lk_in hk)) args) (St.2.1 _ (pg_in rfl wd_acN) args) (St.2.1 _ (pg_in rfl wd_acS) args) (St.2.1 _ (pg_in rfl wd_sys) args)
    (src := mc_ad ra B a) (dst := mc_ad ra B b) (cs := ca) (cd := cb) (srcPos := sp) (destPos := dp) (n := k) (by rw [hT]; exact a1) (by rw [hT]; exact b1) an bn a3 b3 hka hkb hkka hkkb rfl h1 h2 h3
    (by rw [nn sp h1, nn k h3]; have := a4.1; omega) (by rw [nn dp h2, nn k h3]; have := b4.1; omega)
    (fun vm₁ _ j hj => by rw [hget j hj]; exact ⟨rfl, trivial⟩)
    (g := F0 m pc ls (mc_T ra B (.int k :: .int dp :: .ref b :: .int sp :: .ref a :: st'))) rfl (by show ls.size = _; rw [hl.1, Cx.2.2.1]) (rest := mc_T ra B st') rfl (by rw [Cx.2.1]; exact hd) (by have := hrm'.1; omega)
    (by
      have e1 : ((mc_T ra B st').map fun v => v.category).sum ≤ 8 := by rw [mc_T_cat]; exact hcat
      have e2 : nativeFrameWords "java/lang/System" "arraycopy" 5 = 7 := by decide
      have := hrm'.2
      show 2 * 0 + _ + (nativeFrameWords "java/lang/System" "arraycopy" 5 + 11) ≤ _
      rw [e2]
      omega)
  have hlb : mc_ad ra B b < H.size := (Array.getElem?_eq_some_iff.mp b1).1
  have hheap : ((T.setVm vm').setCell (mc_ad ra B b) (copied ca cb sp dp k)).heap = H.setIfInBounds (mc_ad ra B b) (copied ca cb sp dp k) := by rw [← hT]; rfl
  have oq : ∀ q : Nat, q ≠ mc_ad ra B b → (H.setIfInBounds (mc_ad ra B b) (copied ca cb sp dp k))[q]? = H[q]? := fun q hq => by simp [Array.getElem?_setIfInBounds, Ne.symm hq]
  have hself : (H.setIfInBounds (mc_ad ra B b) (copied ca cb sp dp k))[mc_ad ra B b]? = some (copied ca cb sp dp k) := by simp [Array.getElem?_setIfInBounds, hlb]
  have hz : (H.setIfInBounds (mc_ad ra B b) (copied ca cb sp dp k)).size = H.size := by simp
  have hlen : (ca.stretch sp.toNatClampNeg k.toNatClampNeg).length = k.toNatClampNeg := by simp [Cell.stretch]
  have hfac := Cell.storeRun_facts cb dp.toNatClampNeg (ca.stretch sp.toNatClampNeg k.toNatClampNeg)
  have hsh : (mc_cpy σ.1 a b sp.toNatClampNeg dp.toNatClampNeg k.toNatClampNeg, σ.2).2.2.2.1 b = σ.2.2.2.1 b := rfl
  obtain ⟨t, t1, t2⟩ := kk _ (locs ++ (ca.stretch sp.toNatClampNeg k.toNatClampNeg).zipIdx.map fun q => ⟨mc_ad ra B b, dp.toNatClampNeg + q.2⟩) ls hl
    (hD.write hb10 (fun x hx => by funext j; simp [mc_cpy, hx]) (fun _ _ => rfl) (fun _ _ => rfl) rfl (by rw [hb]; exact ⟨by decide, by decide⟩) hz oq
      ⟨fun q => (by rw [hsh, hb] at q; cases q), fun _ => ⟨_, hself, ⟨by rw [hfac.2.1]; exact bn, kb, by rw [hfac.1]; exact hkb, cob, hkkb⟩, by rw [hfac.2.1]; exact b3, by rw [hfac.2.2.1]; exact b4, fun j hj => by
        rw [Cell.storeRun_get _ _ _ _ (by rw [hlen]; exact Nat.le_trans h5 b4.1), hlen]
        show _ = some (Value.int (mc_cpy σ.1 a b sp.toNatClampNeg dp.toNatClampNeg k.toNatClampNeg b j))
        by_cases hj2 : dp.toNatClampNeg ≤ j ∧ j < dp.toNatClampNeg + k.toNatClampNeg
        · rw [if_pos hj2]
          simp only [mc_cpy, hj2, and_self, if_true, Cell.stretch, List.getElem?_map]
          rw [List.getElem?_range (by omega)]
          simp only [Option.map_some]
          rw [hget _ (by omega)]
        · rw [if_neg hj2, b5 j hj]
          simp [mc_cpy, hj2], by rw [hfac.1]; exact b6⟩, fun q => (by rw [hsh, hb] at q; cases q), fun q => (by rw [hsh, hb] at q; cases q)⟩)
    ⟨by rw [hz]; exact hS.1, fun q g1 g2 => by rw [oq q (fun e => g2 (by rw [e]; exact mc_ad_ge hb10))]; exact hS.2.1 q g1 g2, fun q hq => by
      rcases List.mem_append.mp hq with h | h
      · exact hS.2.2 q h
      · obtain ⟨z, -, hz⟩ := List.mem_map.mp h
        rw [← hz]
        exact mc_ad_ge hb10⟩ hu1 hu2 _ hheap X'
  exact ⟨t, step t t1, t2⟩
end
