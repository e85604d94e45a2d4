theorem mc_nth_out {α : Type} : ∀ (l : List α) (n : Nat) (d : α), l.length ≤ n → mc_nth l n d = d
  | [], _, _, _ => rfl
  | _ :: _, 0, _, h => absurd h (by simp)
  | _ :: r, n + 1, d, h => mc_nth_out r n d (Nat.le_of_succ_le_succ h)
theorem mi_lt {mi : Nat} {x : mc_E} (h : x ∈ pg_tb mi) : mi < 206 := by
  rcases Nat.lt_or_ge mi 206 with h1 | h1
  · exact h1
  · have h2 : pg_tb mi = [] := mc_nth_out pg_all mi [] h1
    rw [h2] at h
    cases h
section
variable {p : Program} {l : Launch} {e : Env} {s : State} {m : MethodId} {args : Array Value} {below : List Frame} {meth : Method} {c : Code} {H : Heap} {locs : List Loc} {Q : State → Prop}
variable {D : va_G} {ra : Nat → Nat} {B : Nat} {v1 v2 : Value} {ls : Array Slot} {mi : Nat} {L st L' st' : List Value} {σ σ' : mc_M} {u u' : mc_U} {o : Option Prop}
set_option maxHeartbeats 4000000 in
/-- an instruction that neither jumps nor calls: the great machine does what the small one says -/
theorem es_all {x : mc_E} (hm : x ∈ pg_tb mi) (h : mc_eff (pg_cs mi) x L st σ u = some (o, L', st', σ', u')) (ho : ∀ O, o = some O → O)
    (Cx : mc_Cx p l s m meth c mi) (St : mc_St D ra B v1 v2 s s.heap) (hl : mc_lr ra B ls (pg_nl mi) L) (hD : mc_Dy D ra B s σ H) (hS : va_S (mc_A B) s.heap H locs) (hu1 : u.1 ≤ (pg_cs mi).1) (hu2 : u.2 ≤ (pg_cs mi).2)
    (kk : mc_KK p l e s m args below meth c Q D ra B mi (x.1 + x.2.2.1) L' st' σ' u') : W p l e (mc_rm mi) s m args below meth c H locs u.1 u.2 Q (F0 m x.1 ls (mc_T ra B st)) := by
  have hn := en_n hm
  have hd := en_dec hm
  have hlt := mi_lt hm
  obtain ⟨pc, ins, n, X, Y, Z⟩ := x
  dsimp only at hd kk ⊢
  have kp : σ' = σ → u' = u → ∀ ls1, mc_lr ra B ls1 (pg_nl mi) L' → W p l e (mc_rm mi) s m args below meth c H locs u.1 u.2 Q (F0 m (pc + n) ls1 (mc_T ra B st')) := by
    intro e1 e2 ls1 h1
    subst e1; subst e2
    exact kk H locs ls1 h1 hD hS hu1 hu2
  cases ins with
  | iadd =>
    have hq := Nat.eq_of_beq_eq_true (show Nat.beq n 1 = true from hn)
    subst hq
    exact ef_iadd Cx.1 Cx.2.1 hl hd  h kp
  | isub =>
    have hq := Nat.eq_of_beq_eq_true (show Nat.beq n 1 = true from hn)
    subst hq
    exact ef_isub Cx.1 Cx.2.1 hl hd  h kp
  | imul =>
    have hq := Nat.eq_of_beq_eq_true (show Nat.beq n 1 = true from hn)
    subst hq
    exact ef_imul Cx.1 Cx.2.1 hl hd  h kp
  | iand =>
    have hq := Nat.eq_of_beq_eq_true (show Nat.beq n 1 = true from hn)
    subst hq
    exact ef_iand Cx.1 Cx.2.1 hl hd  h kp
  | ior =>
    have hq := Nat.eq_of_beq_eq_true (show Nat.beq n 1 = true from hn)
    subst hq
    exact ef_ior Cx.1 Cx.2.1 hl hd  h kp
  | ishl =>
    have hq := Nat.eq_of_beq_eq_true (show Nat.beq n 1 = true from hn)
    subst hq
    exact ef_ishl Cx.1 Cx.2.1 hl hd  h kp
  | ishr =>
    have hq := Nat.eq_of_beq_eq_true (show Nat.beq n 1 = true from hn)
    subst hq
    exact ef_ishr Cx.1 Cx.2.1 hl hd  h kp
  | land =>
    have hq := Nat.eq_of_beq_eq_true (show Nat.beq n 1 = true from hn)
    subst hq
    exact ef_land Cx.1 Cx.2.1 hl hd  h kp
  | lor =>
    have hq := Nat.eq_of_beq_eq_true (show Nat.beq n 1 = true from hn)
    subst hq
    exact ef_lor Cx.1 Cx.2.1 hl hd  h kp
  | lshl =>
    have hq := Nat.eq_of_beq_eq_true (show Nat.beq n 1 = true from hn)
    subst hq
    exact ef_lshl Cx.1 Cx.2.1 hl hd  h kp
  | lshr =>
    have hq := Nat.eq_of_beq_eq_true (show Nat.beq n 1 = true from hn)
    subst hq
    exact ef_lshr Cx.1 Cx.2.1 hl hd  h kp
  | lushr =>
    have hq := Nat.eq_of_beq_eq_true (show Nat.beq n 1 = true from hn)
    subst hq
    exact ef_lushr Cx.1 Cx.2.1 hl hd  h kp
  | i2l =>
    have hq := Nat.eq_of_beq_eq_true (show Nat.beq n 1 = true from hn)
    subst hq
    exact ef_i2l Cx.1 Cx.2.1 hl hd  h kp
  | l2i =>
    have hq := Nat.eq_of_beq_eq_true (show Nat.beq n 1 = true from hn)
    subst hq
    exact ef_l2i Cx.1 Cx.2.1 hl hd  h kp
  | lcmp =>
    have hq := Nat.eq_of_beq_eq_true (show Nat.beq n 1 = true from hn)
    subst hq
    exact ef_lcmp Cx.1 Cx.2.1 hl hd  h kp
  | dup =>
    have hq := Nat.eq_of_beq_eq_true (show Nat.beq n 1 = true from hn)
    subst hq
    exact ef_dup Cx.1 Cx.2.1 hl hd  h kp
  | pop =>
    have hq := Nat.eq_of_beq_eq_true (show Nat.beq n 1 = true from hn)
    subst hq
    exact ef_pop Cx.1 Cx.2.1 hl hd  h kp
  | dup2 =>
    have hq := Nat.eq_of_beq_eq_true (show Nat.beq n 1 = true from hn)
    subst hq
    exact ef_dup2 Cx.1 Cx.2.1 hl hd  h kp
  | idiv =>
    have hq := Nat.eq_of_beq_eq_true (show Nat.beq n 1 = true from hn)
    subst hq
    exact ef_idiv Cx.1 Cx.2.1 hl hd ho h kp
  | irem =>
    have hq := Nat.eq_of_beq_eq_true (show Nat.beq n 1 = true from hn)
    subst hq
    exact ef_irem Cx.1 Cx.2.1 hl hd ho h kp
  | iload_n k =>
    have hq := Nat.eq_of_beq_eq_true (show Nat.beq n 1 = true from hn)
    subst hq
    exact ef_iload_n Cx.1 Cx.2.1 hl hd  h kp
  | iload i =>
    have hq := Nat.eq_of_beq_eq_true (show Nat.beq n 2 = true from hn)
    subst hq
    exact ef_iload Cx.1 Cx.2.1 hl hd  h kp
  | lload_n k =>
    have hq := Nat.eq_of_beq_eq_true (show Nat.beq n 1 = true from hn)
    subst hq
    exact ef_lload_n Cx.1 Cx.2.1 hl hd  h kp
  | lload i =>
    have hq := Nat.eq_of_beq_eq_true (show Nat.beq n 2 = true from hn)
    subst hq
    exact ef_lload Cx.1 Cx.2.1 hl hd  h kp
  | aload_n k =>
    have hq := Nat.eq_of_beq_eq_true (show Nat.beq n 1 = true from hn)
    subst hq
    exact ef_aload_n Cx.1 Cx.2.1 hl hd  h kp
  | aload i =>
    have hq := Nat.eq_of_beq_eq_true (show Nat.beq n 2 = true from hn)
    subst hq
    exact ef_aload Cx.1 Cx.2.1 hl hd  h kp
  | istore_n k =>
    replace hn : (Nat.beq n 1 && Nat.blt k.val (pg_nl mi)) = true := hn
    rw [Bool.and_eq_true] at hn
    have hq := Nat.eq_of_beq_eq_true hn.1
    subst hq
    exact ef_istore_n Cx.1 Cx.2.1 hl hd (Nat.le_of_ble_eq_true hn.2) h kp
  | istore i =>
    replace hn : (Nat.beq n 2 && Nat.blt i (pg_nl mi)) = true := hn
    rw [Bool.and_eq_true] at hn
    have hq := Nat.eq_of_beq_eq_true hn.1
    subst hq
    exact ef_istore Cx.1 Cx.2.1 hl hd (Nat.le_of_ble_eq_true hn.2) h kp
  | astore_n k =>
    replace hn : (Nat.beq n 1 && Nat.blt k.val (pg_nl mi)) = true := hn
    rw [Bool.and_eq_true] at hn
    have hq := Nat.eq_of_beq_eq_true hn.1
    subst hq
    exact ef_astore_n Cx.1 Cx.2.1 hl hd (Nat.le_of_ble_eq_true hn.2) h kp
  | astore i =>
    replace hn : (Nat.beq n 2 && Nat.blt i (pg_nl mi)) = true := hn
    rw [Bool.and_eq_true] at hn
    have hq := Nat.eq_of_beq_eq_true hn.1
    subst hq
    exact ef_astore Cx.1 Cx.2.1 hl hd (Nat.le_of_ble_eq_true hn.2) h kp
  | iinc i z =>
    replace hn : (Nat.beq n 3 && Nat.blt i (pg_nl mi)) = true := hn
    rw [Bool.and_eq_true] at hn
    have hq := Nat.eq_of_beq_eq_true hn.1
    subst hq
    exact ef_iinc Cx.1 Cx.2.1 hl hd (Nat.le_of_ble_eq_true hn.2) h kp
  | iconst z =>
    have hq := Nat.eq_of_beq_eq_true (show Nat.beq n 1 = true from hn)
    subst hq
    exact ef_iconst Cx.1 Cx.2.1 hl hd  h kp
  | bipush z =>
    have hq := Nat.eq_of_beq_eq_true (show Nat.beq n 2 = true from hn)
    subst hq
    exact ef_bipush Cx.1 Cx.2.1 hl hd  h kp
  | sipush z =>
    have hq := Nat.eq_of_beq_eq_true (show Nat.beq n 3 = true from hn)
    subst hq
    exact ef_sipush Cx.1 Cx.2.1 hl hd  h kp
  | ldc i => exact es_ldc hn hd h Cx St hl hD hS hu1 hu2 kk
  | ldc2_w i => exact es_ldc2 hn hd h Cx St hl hD hS hu1 hu2 kk
  | getfield i => exact es_getfield hn hd h ho Cx St hl hD hS hu1 hu2 kk
  | putfield i => exact es_putfield hn (fun q => (pg_k2 mi hlt q).1) hd h ho Cx St hl hD hS hu1 hu2 kk
  | getstatic i => exact es_getstatic hn hd h Cx St hl hD hS hu1 hu2 kk
  | new i => exact es_new hn hd h ho Cx St hl hD hS kk
  | newarray t =>
    cases t with
    | int => exact es_newI hn hd h ho Cx St hl hD hS kk
    | long => exact es_newL hn hd h ho Cx St hl hD hS kk
    | _ => exact nomatch (show false = true from hn)
  | anewarray i => exact es_anew hn hd h ho Cx St hl hD hS kk
  | iaload =>
    have hq := Nat.eq_of_beq_eq_true (show Nat.beq n 1 = true from hn)
    subst hq
    obtain ⟨i, a, r, rfl, q⟩ := mc_iald_inv h
    cases q
    obtain ⟨g1, g2⟩ := ho _ rfl
    exact mc_aldI Cx.1 Cx.2.1 hD g1 g2 hd (kp rfl rfl ls hl)
  | laload =>
    have hq := Nat.eq_of_beq_eq_true (show Nat.beq n 1 = true from hn)
    subst hq
    obtain ⟨i, a, r, rfl, q⟩ := mc_lald_inv h
    cases q
    obtain ⟨g1, g2⟩ := ho _ rfl
    exact mc_aldL Cx.1 Cx.2.1 hD g1 g2 hd (kp rfl rfl ls hl)
  | aaload =>
    have hq := Nat.eq_of_beq_eq_true (show Nat.beq n 1 = true from hn)
    subst hq
    obtain ⟨i, a, r, rfl, q⟩ := mc_aald_inv h
    cases q
    obtain ⟨g1, g2, g3⟩ := ho _ rfl
    exact mc_aldA Cx.1 Cx.2.1 hD g1 g2 g3 hd (kp rfl rfl ls hl)
  | iastore =>
    have hq := Nat.eq_of_beq_eq_true (show Nat.beq n 1 = true from hn)
    subst hq
    obtain ⟨v, i, a, r, rfl, q⟩ := mc_iast_inv h
    cases q
    obtain ⟨g1, g2, g3⟩ := ho _ rfl
    exact mc_astI Cx.1 Cx.2.1 hD hS g1 g2 g3 hd (fun H1 locs1 h1 h2 => kk H1 locs1 ls hl h1 h2 hu1 hu2)
  | lastore =>
    have hq := Nat.eq_of_beq_eq_true (show Nat.beq n 1 = true from hn)
    subst hq
    obtain ⟨v, i, a, r, rfl, q⟩ := mc_last_inv h
    cases q
    obtain ⟨g1, g2, g3⟩ := ho _ rfl
    exact mc_astL Cx.1 Cx.2.1 hD hS g1 g2 g3 hd (fun H1 locs1 h1 h2 => kk H1 locs1 ls hl h1 h2 hu1 hu2)
  | aastore =>
    replace hn : (Nat.beq n 1 && Nat.beq X 4) = true := hn
    rw [Bool.and_eq_true] at hn
    have hq := Nat.eq_of_beq_eq_true hn.1
    have hX := Nat.eq_of_beq_eq_true hn.2
    subst hq; subst hX
    obtain ⟨v, i, a, r, rfl, q⟩ := mc_aast_inv (x := 4) h
    cases q
    obtain ⟨g1, g2, g3, g4, g5⟩ := ho _ rfl
    exact mc_astA Cx.1 Cx.2.1 hD St.1 hS g1 g2 g3 g4 g5 hd (fun H1 locs1 h1 h2 => kk H1 locs1 ls hl h1 h2 hu1 hu2)
  | arraylength =>
    have hq := Nat.eq_of_beq_eq_true (show Nat.beq n 1 = true from hn)
    subst hq
    obtain ⟨a, r, rfl, q⟩ := mc_alen_inv h
    cases q
    exact mc_len Cx.1 Cx.2.1 hD (ho _ rfl) hd (kp rfl rfl ls hl)
  | invokestatic i =>
    replace hn : (Nat.beq n 3 && ((Nat.beq Z 4 && lk_has (pg_oc mi) i 4 0 && ck_room mi 1 21) || (Nat.beq Z 5 && lk_has (pg_oc mi) i 5 0 && ck_room mi 1 21) || (Nat.beq Z 6 && lk_has (pg_oc mi) i 6 0 && ck_room mi 1 48) || (Nat.beq Z 0 && ck_cal mi i X Y Z))) = true := hn
    simp only [Bool.and_eq_true, Bool.or_eq_true] at hn
    obtain ⟨hq, hn⟩ := hn
    have hq := Nat.eq_of_beq_eq_true hq
    subst hq
    rcases hn with ((⟨⟨hz, hk⟩, hr⟩ | ⟨⟨hz, hk⟩, hr⟩) | ⟨⟨hz, hk⟩, hr⟩) | ⟨hz, -⟩
    · have hz := Nat.eq_of_beq_eq_true hz
      subst hz
      obtain ⟨hc, h⟩ := mc_lt_inv (show mc_lt st 2 (mc_ii L st σ u (fun x y => if x < y then y else x)) = _ from h)
      obtain ⟨a, b, r, rfl, q⟩ := mc_ii_inv h
      cases q
      exact va_mmax Cx.1 Cx.2.1 (by rw [Cx.2.2.1, hl.1]) Cx.2.2.2.2.1 (St.2.1 _ (pg_in rfl (lk_in hk)) args) (St.2.1 _ (pg_in rfl wd_maxS) args) (St.2.1 _ (pg_in rfl wd_math) args) (St.2.1 _ (pg_in rfl wd_maxC) args) (rm_ok hr).1 (by have := (rm_ok hr).2; have e1 : ((mc_T ra B r).map fun v => v.category).sum ≤ 8 := (by rw [mc_T_cat]; exact hc); unfold mc_T at e1; omega) hu1 hu2 hd (kp rfl rfl ls hl)
    · have hz := Nat.eq_of_beq_eq_true hz
      subst hz
      obtain ⟨hc, h⟩ := mc_lt_inv (show mc_lt st 2 (mc_ii L st σ u (fun x y => if y < x then y else x)) = _ from h)
      obtain ⟨a, b, r, rfl, q⟩ := mc_ii_inv h
      cases q
      exact va_mmin Cx.1 Cx.2.1 (by rw [Cx.2.2.1, hl.1]) Cx.2.2.2.2.1 (St.2.1 _ (pg_in rfl (lk_in hk)) args) (St.2.1 _ (pg_in rfl wd_minS) args) (St.2.1 _ (pg_in rfl wd_math) args) (St.2.1 _ (pg_in rfl wd_minC) args) (rm_ok hr).1 (by have := (rm_ok hr).2; have e1 : ((mc_T ra B r).map fun v => v.category).sum ≤ 8 := (by rw [mc_T_cat]; exact hc); unfold mc_T at e1; omega) hu1 hu2 hd (kp rfl rfl ls hl)
    · have hz := Nat.eq_of_beq_eq_true hz
      subst hz
      exact es_copy hk hr hd h ho Cx St hl hD hS hu1 hu2 kk
    · have hz := Nat.eq_of_beq_eq_true hz
      subst hz
      exact nomatch (show (none : mc_R) = some (o, L', st', σ', u') from h)
  | invokespecial i =>
    replace hn : (Nat.beq n 3 && ((Nat.beq Z 3 && lk_has (pg_oc mi) i 7 0 && ck_room mi 1 20) || (Nat.beq Z 2 && ck_cal mi i X Y Z) || Nat.beq Z 9)) = true := hn
    simp only [Bool.and_eq_true, Bool.or_eq_true] at hn
    obtain ⟨hq, hn⟩ := hn
    have hq := Nat.eq_of_beq_eq_true hq
    subst hq
    rcases hn with (⟨⟨hz, hk⟩, hr⟩ | ⟨hz, -⟩) | hz
    · have hz := Nat.eq_of_beq_eq_true hz
      subst hz
      obtain ⟨hc, h⟩ := mc_lt_inv (show mc_lt st 1 (mc_obj L st σ u) = _ from h)
      obtain ⟨a, r, rfl, q⟩ := mc_obj_inv h
      cases q
      exact W.objInit Cx.1 Cx.2.1 Cx.2.2.2.2.1 (St.2.1 _ (pg_in rfl (lk_in hk)) args) (St.2.1 _ (pg_in rfl wd_objI) args) (St.2.1 _ (pg_in rfl wd_objC) args) rfl (by show ls.size = _; rw [Cx.2.2.1, hl.1]) rfl hd (rm_ok hr).1 (by have := (rm_ok hr).2; have e1 : ((mc_T ra B st').map fun v => v.category).sum ≤ 8 := (by rw [mc_T_cat]; exact hc); unfold mc_T at e1; show 2 * 0 + _ + 12 ≤ _; omega) (kp rfl rfl ls hl)
    · have hz := Nat.eq_of_beq_eq_true hz
      subst hz
      exact nomatch (show (none : mc_R) = some (o, L', st', σ', u') from h)
    · have hz := Nat.eq_of_beq_eq_true hz
      subst hz
      exact nomatch (show (none : mc_R) = some (o, L', st', σ', u') from h)
  | _ => exact nomatch (show (none : mc_R) = some (o, L', st', σ', u') from h)
end
