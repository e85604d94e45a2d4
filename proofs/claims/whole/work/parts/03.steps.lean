/-- not much lies below y values -/
def mc_lt (st : List Value) (y : Nat) (k : mc_R) : mc_R := match Nat.ble ((st.drop y).map fun v => v.category).sum 8 with
  | true => k
  | false => none
section
variable (b : mc_U) (e : mc_E) (L st : List Value) (σ : mc_M) (u : mc_U)
/-- what an instruction does that neither jumps nor calls -/
def mc_eff : mc_R := match e.2.1 with
  | .iconst k => some (none, L, .int (Int32.ofInt k) :: st, σ, u)
  | .bipush k => some (none, L, .int (Int8.ofInt k).toInt32 :: st, σ, u)
  | .sipush k => some (none, L, .int (Int16.ofInt k).toInt32 :: st, σ, u)
  | .ldc _ => match e.2.2.2.2.2 with
    | 0 => some (none, L, .int (Int32.ofNat e.2.2.2.1) :: st, σ, u)
    | _ => none
  | .ldc2_w _ => some (none, L, .long (Int64.ofNat e.2.2.2.1) :: st, σ, u)
  | .iload_n k => mc_ldi L st σ u (k : Nat)
  | .iload i => mc_ldi L st σ u i
  | .lload_n k => mc_ldl L st σ u (k : Nat)
  | .lload i => mc_ldl L st σ u i
  | .aload_n k => mc_lda L st σ u (k : Nat)
  | .aload i => mc_lda L st σ u i
  | .istore_n k => mc_sti L st σ u (k : Nat)
  | .istore i => mc_sti L st σ u i
  | .astore_n k => mc_sta L st σ u (k : Nat)
  | .astore i => mc_sta L st σ u i
  | .iinc i k => mc_inc L st σ u i k
  | .iadd => mc_ii L st σ u (fun x y => x + y)
  | .isub => mc_ii L st σ u (fun x y => x - y)
  | .imul => mc_ii L st σ u (fun x y => x * y)
  | .iand => mc_ii L st σ u (fun x y => x &&& y)
  | .ior => mc_ii L st σ u (fun x y => x ||| y)
  | .idiv => mc_iio L st σ u (fun x y => x / y)
  | .irem => mc_iio L st σ u (fun x y => x - x / y * y)
  | .ishl => mc_ii L st σ u (fun x y => x <<< (y &&& 31))
  | .ishr => mc_ii L st σ u (fun x y => x >>> (y &&& 31))
  | .land => mc_ll L st σ u (fun x y => x &&& y)
  | .lor => mc_ll L st σ u (fun x y => x ||| y)
  | .lshl => mc_li L st σ u (fun x y => x <<< (y.toInt64 &&& 63))
  | .lshr => mc_li L st σ u (fun x y => x >>> (y.toInt64 &&& 63))
  | .lushr => mc_li L st σ u (fun x y => (x.toUInt64 >>> (y.toInt64.toUInt64 &&& Int64.toUInt64 63)).toInt64)
  | .i2l => match st with
    | .int x :: r => some (none, L, .long x.toInt64 :: r, σ, u)
    | _ => none
  | .l2i => match st with
    | .long x :: r => some (none, L, .int x.toInt32 :: r, σ, u)
    | _ => none
  | .lcmp => match st with
    | .long y :: .long x :: r => some (none, L, .int (lg_cmp x y) :: r, σ, u)
    | _ => none
  | .dup => mc_dup L st σ u
  | .pop => mc_pop L st σ u
  | .dup2 => mc_dup2 L st σ u
  | .getfield _ => mc_get L st σ u e.2.2.2.1 e.2.2.2.2.1 e.2.2.2.2.2
  | .putfield _ => mc_putf L st σ u e.2.2.2.1 e.2.2.2.2.1 e.2.2.2.2.2
  | .getstatic _ => some (none, L, .ref e.2.2.2.1 :: st, σ, u)
  | .iaload => mc_iald L st σ u
  | .iastore => mc_iast L st σ u
  | .laload => mc_lald L st σ u
  | .lastore => mc_last L st σ u
  | .aaload => mc_aald L st σ u
  | .aastore => mc_aast L st σ u e.2.2.2.1
  | .arraylength => mc_alen L st σ u
  | .new _ => match e.2.2.2.2.2 with
    | 0 => mc_newo L st σ u b e.2.2.2.1 e.2.2.2.2.1
    | _ => none
  | .newarray _ => mc_newa L st σ u b e.2.2.2.1
  | .anewarray _ => mc_newa L st σ u b e.2.2.2.1
  | .invokespecial _ => match e.2.2.2.2.2 with
    | 3 => mc_lt st 1 (mc_obj L st σ u)
    | _ => none
  | .invokestatic _ => match e.2.2.2.2.2 with
    | 4 => mc_lt st 2 (mc_ii L st σ u (fun x y => if x < y then y else x))
    | 5 => mc_lt st 2 (mc_ii L st σ u (fun x y => if y < x then y else x))
    | 6 => mc_lt st 5 (mc_copy L st σ u)
    | _ => none
  | _ => none
end
def mc_c (c : ClassFile.Cond) (x y : Int32) : Prop := match c with
  | .eq => x = y
  | .ne => ¬ x = y
  | .lt => x < y
  | .ge => y ≤ x
  | .gt => y < x
  | .le => x ≤ y
def mc_tsw (pc : Nat) (x : Int32) : Int → List Int → Nat → (Nat → Prop) → Prop
  | _, [], d, K => K d
  | lo, o :: r, d, K => (x.toInt = lo → K ((pc : Int) + o).toNat) ∧ (¬ x.toInt = lo → mc_tsw pc x (lo + 1) r d K)
def mc_val : Value → Bool
  | .int _ => true
  | .ref _ => true
  | .long _ => true
  | _ => false
def mc_lay (args : List Value) : List Value := args.flatMap fun v => match v with
  | .long x => [.long x, .null]
  | v => [v]
/-- y arguments lie there, they have their place in k locals, and not much lies below them -/
def mc_okst (st : List Value) (y k : Nat) : Bool := Nat.beq (st.take y).length y && (st.take y).all mc_val && Nat.ble ((st.drop y).map fun v => v.category).sum 8 && Nat.ble (mc_lay (st.take y).reverse).length k
abbrev mc_Kn : Type := List Value → List Value → mc_M → mc_U → Prop
abbrev mc_Kj : Type := Nat → mc_Kn
abbrev mc_Kc : Type := Nat → List Value → mc_M → mc_Q → Prop
/-- a method with handlers -/
def pg_wr (mi : Nat) : Bool := Nat.ble 29 mi && Nat.ble mi 41
def mc_out (mi : Nat) (h : Option Int32) (Q : mc_Q) (k : Nat) (σ : mc_M) : Prop := match h with
  | none => match pg_wr mi with
    | false => Q (.inr k) σ
    | true => False
  | some c => Q (.inl (some (.int c))) σ
section
variable (mi : Nat) (e : mc_E) (L st : List Value) (σ : mc_M) (u : mc_U) (Kn : mc_Kn) (Kj : mc_Kj) (Kc : mc_Kc) (Q : mc_Q)
def mc_go : Prop := u.1 + (pg_cs e.2.2.2.1).1 ≤ (pg_cs mi).1 ∧ u.2 + (pg_cs e.2.2.2.1).2 ≤ (pg_cs mi).2 ∧
  ∃ P : mc_Q, Kc e.2.2.2.1 (st.take e.2.2.2.2.1).reverse σ P ∧
    (∀ v τ, P (.inl v) τ → Kn L (v.toList ++ st.drop e.2.2.2.2.1) τ (u.1 + (pg_cs e.2.2.2.1).1, u.2 + (pg_cs e.2.2.2.1).2)) ∧
    (∀ k τ, P (.inr k) τ → mc_out mi (pg_hd mi e.1 k) Q k τ)
def mc_call : Prop := match mc_okst st e.2.2.2.2.1 (pg_nl e.2.2.2.1) with
  | false => False
  | true => match e.2.2.2.2.2 with
    | 0 => mc_go mi e L st σ u Kn Kc Q
    | 2 => match mc_at st (e.2.2.2.2.1 - 1) with
      | .ref _ => mc_go mi e L st σ u Kn Kc Q
      | _ => False
    | 1 => match mc_at st (e.2.2.2.2.1 - 1) with
      | .ref a => σ.2.2.2.1 a = (1, pg_rc e.2.2.2.1) ∧ mc_go mi e L st σ u Kn Kc Q
      | _ => False
    | _ => False
def mc_ctl : Prop := match e.2.1 with
  | .goto _ => Kj e.2.2.2.1 L st σ u
  | .ifCond c _ => match st with
    | .int v :: r => (mc_c c v 0 → Kj e.2.2.2.1 L r σ u) ∧ (¬ mc_c c v 0 → Kn L r σ u)
    | _ => False
  | .if_icmp c _ => match st with
    | .int w :: .int v :: r => (mc_c c v w → Kj e.2.2.2.1 L r σ u) ∧ (¬ mc_c c v w → Kn L r σ u)
    | _ => False
  | .tableswitch _ lo _ offs => match st with
    | .int v :: r => mc_tsw e.1 v lo offs.toList e.2.2.2.1 (fun t => Kj t L r σ u)
    | _ => False
  | .ireturn => match st with
    | [.int v] => match e.2.2.2.2.2 with
      | 1 => (v = 0 ∨ v = 1) ∧ Q (.inl (some (.int v))) σ
      | _ => Q (.inl (some (.int v))) σ
    | _ => False
  | .areturn => match st with
    | [.ref a] => Q (.inl (some (.ref a))) σ
    | _ => False
  | .return_ => match st with
    | [] => Q (.inl none) σ
    | _ => False
  | .new _ => match e.2.2.2.2.2 with
    | 1 => match st with
      | [] => u.1 + 1 ≤ (pg_cs mi).1 ∧ u.2 + 6 ≤ (pg_cs mi).2 ∧ Q (.inr e.2.2.2.1) (σ.1, σ.2.1, σ.2.2.1, σ.2.2.2.1, 0)
      | _ => False
    | _ => False
  | .invokestatic _ => mc_call mi e L st σ u Kn Kc Q
  | .invokevirtual _ => mc_call mi e L st σ u Kn Kc Q
  | .invokespecial _ => mc_call mi e L st σ u Kn Kc Q
  | _ => False
def mc_step : Prop := match mc_eff (pg_cs mi) e L st σ u with
  | some (none, L', st', σ', u') => Kn L' st' σ' u'
  | some (some O, L', st', σ', u') => O ∧ Kn L' st' σ' u'
  | none => mc_ctl mi e L st σ u Kn Kj Kc Q
end
theorem mc_go_mono {mi : Nat} {e : mc_E} {L st : List Value} {σ : mc_M} {u : mc_U} {Kn Kn' : mc_Kn} {Kc Kc' : mc_Kc} {Q Q' : mc_Q}
    (hn : ∀ a b c d, Kn a b c d → Kn' a b c d) (hc : ∀ a b c d, Kc a b c d → Kc' a b c d) (hq : ∀ a b, Q a b → Q' a b) (h : mc_go mi e L st σ u Kn Kc Q) : mc_go mi e L st σ u Kn' Kc' Q' := by
  obtain ⟨h1, h2, P, h3, h4, h5⟩ := h
  refine ⟨h1, h2, P, hc _ _ _ _ h3, fun v τ h => hn _ _ _ _ (h4 v τ h), fun k τ h => ?_⟩
  have := h5 k τ h
  unfold mc_out at this ⊢
  cases hh : pg_hd mi e.1 k with
  | none =>
    rw [hh] at this
    dsimp only at this ⊢
    split at this
    · exact hq _ _ this
    · exact this
  | some c => rw [hh] at this; exact hq _ _ this
theorem mc_tsw_mono {pc : Nat} {x : Int32} {K K' : Nat → Prop} (hk : ∀ t, K t → K' t) : ∀ (l : List Int) (lo : Int) (d : Nat), mc_tsw pc x lo l d K → mc_tsw pc x lo l d K'
  | [], _, _, h => hk _ h
  | _ :: r, lo, d, h => ⟨fun a => hk _ (h.1 a), fun a => mc_tsw_mono hk r (lo + 1) d (h.2 a)⟩
theorem mc_call_mono {mi : Nat} {e : mc_E} {L st : List Value} {σ : mc_M} {u : mc_U} {Kn Kn' : mc_Kn} {Kc Kc' : mc_Kc} {Q Q' : mc_Q}
    (hn : ∀ a b c d, Kn a b c d → Kn' a b c d) (hc : ∀ a b c d, Kc a b c d → Kc' a b c d) (hq : ∀ a b, Q a b → Q' a b) (h : mc_call mi e L st σ u Kn Kc Q) : mc_call mi e L st σ u Kn' Kc' Q' := by
  unfold mc_call at h ⊢
  split at h
  · exact h
  · split at h
    · exact mc_go_mono hn hc hq h
    · split at h
      · exact mc_go_mono hn hc hq h
      · exact h
    · split at h
      · exact ⟨h.1, mc_go_mono hn hc hq h.2⟩
      · exact h
    · exact h
theorem mc_ctl_mono {mi : Nat} {e : mc_E} {L st : List Value} {σ : mc_M} {u : mc_U} {Kn Kn' : mc_Kn} {Kj Kj' : mc_Kj} {Kc Kc' : mc_Kc} {Q Q' : mc_Q}
    (hn : ∀ a b c d, Kn a b c d → Kn' a b c d) (hj : ∀ t a b c d, Kj t a b c d → Kj' t a b c d) (hc : ∀ a b c d, Kc a b c d → Kc' a b c d) (hq : ∀ a b, Q a b → Q' a b)
    (h : mc_ctl mi e L st σ u Kn Kj Kc Q) : mc_ctl mi e L st σ u Kn' Kj' Kc' Q' := by
  unfold mc_ctl at h ⊢
  split at h
  · exact hj _ _ _ _ _ h
  · split at h
    · exact ⟨fun a => hj _ _ _ _ _ (h.1 a), fun a => hn _ _ _ _ (h.2 a)⟩
    · exact h
  · split at h
    · exact ⟨fun a => hj _ _ _ _ _ (h.1 a), fun a => hn _ _ _ _ (h.2 a)⟩
    · exact h
  · split at h
    · exact mc_tsw_mono (fun t => hj t _ _ _ _) _ _ _ h
    · exact h
  · split at h
    · split at h
      · exact ⟨h.1, hq _ _ h.2⟩
      · exact hq _ _ h
    · exact h
  · split at h
    · exact hq _ _ h
    · exact h
  · split at h
    · exact hq _ _ h
    · exact h
  · split at h
    · split at h
      · exact ⟨h.1, h.2.1, hq _ _ h.2.2⟩
      · exact h
    · exact h
  · exact mc_call_mono hn hc hq h
  · exact mc_call_mono hn hc hq h
  · exact mc_call_mono hn hc hq h
  · exact h
theorem mc_step_mono {mi : Nat} {e : mc_E} {L st : List Value} {σ : mc_M} {u : mc_U} {Kn Kn' : mc_Kn} {Kj Kj' : mc_Kj} {Kc Kc' : mc_Kc} {Q Q' : mc_Q}
    (hn : ∀ a b c d, Kn a b c d → Kn' a b c d) (hj : ∀ t a b c d, Kj t a b c d → Kj' t a b c d) (hc : ∀ a b c d, Kc a b c d → Kc' a b c d) (hq : ∀ a b, Q a b → Q' a b)
    (h : mc_step mi e L st σ u Kn Kj Kc Q) : mc_step mi e L st σ u Kn' Kj' Kc' Q' := by
  unfold mc_step at h ⊢
  split at h
  · exact hn _ _ _ _ h
  · exact ⟨h.1, hn _ _ _ _ h.2⟩
  · exact mc_ctl_mono hn hj hc hq h
/-! THE JUDGEMENT -/
def mc_from (mi pc : Nat) : List mc_E := (pg_tb mi).dropWhile (fun e => !(Nat.beq e.1 pc))
def mc_pad : List Value → Nat → List Value
  | [], 0 => []
  | [], n + 1 => .null :: mc_pad [] n
  | _ :: _, 0 => []
  | v :: r, n + 1 => v :: mc_pad r n
/-- a method's start -/
def mc_en (mi : Nat) (args : List Value) (σ : mc_M) : mc_C := (mi, 0, mc_pad (mc_lay args) (pg_nl mi), [], σ, (0, 0))
/-- one instruction, what comes behind it by S -/
def mc_F (S : mc_C → mc_Q → Prop) (c : mc_C) (Q : mc_Q) : Prop := match mc_from c.1 c.2.1 with
  | [] => False
  | e :: _ => mc_step c.1 e c.2.2.1 c.2.2.2.1 c.2.2.2.2.1 c.2.2.2.2.2 (fun L st σ u => S (c.1, e.1 + e.2.2.1, L, st, σ, u) Q) (fun t L st σ u => S (c.1, t, L, st, σ, u) Q) (fun mi args σ P => S (mc_en mi args σ) P) Q
/-- what keeps the machine's laws -/
def mc_Cl (S : mc_C → mc_Q → Prop) : Prop := (∀ c Q, mc_F S c Q → S c Q) ∧ ∀ c Q Q', S c Q → (∀ o σ, Q o σ → Q' o σ) → S c Q'
/-- from c the machine comes to an end with Q -/
def mc_WP (c : mc_C) (Q : mc_Q) : Prop := ∀ S, mc_Cl S → S c Q
theorem mc_F_mono {S S' : mc_C → mc_Q → Prop} (h : ∀ c Q, S c Q → S' c Q) {c : mc_C} {Q : mc_Q} (hf : mc_F S c Q) : mc_F S' c Q := by
  unfold mc_F at hf ⊢
  split at hf
  · exact hf
  · exact mc_step_mono (fun _ _ _ _ => h _ _) (fun _ _ _ _ _ => h _ _) (fun _ _ _ _ => h _ _) (fun _ _ x => x) hf
theorem mc_WP.fold {c : mc_C} {Q : mc_Q} (h : mc_F mc_WP c Q) : mc_WP c Q := fun S hS => hS.1 c Q (mc_F_mono (fun c Q hw => hw S hS) h)
theorem mc_WP.weak {c : mc_C} {Q Q' : mc_Q} (h : mc_WP c Q) (hq : ∀ o σ, Q o σ → Q' o σ) : mc_WP c Q' := fun S hS => hS.2 c Q Q' (h S hS) hq
/-- so many instructions on, along the list -/
def mc_run (mi : Nat) (Kj : mc_Kj) (Kc : mc_Kc) (Q : mc_Q) : Nat → List mc_E → List Value → List Value → mc_M → mc_U → Prop
  | _, [], _, _, _, _ => False
  | 0, e :: _, L, st, σ, u => Kj e.1 L st σ u
  | n + 1, e :: r, L, st, σ, u => mc_step mi e L st σ u (mc_run mi Kj Kc Q n r) Kj Kc Q
/-- each entry stands where the one before it ends -/
def mc_adj : List mc_E → Bool
  | e :: f :: r => Nat.beq (e.1 + e.2.2.1) f.1 && Nat.blt e.1 f.1 && mc_adj (f :: r)
  | _ => true
