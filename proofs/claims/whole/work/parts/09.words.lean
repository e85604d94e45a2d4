/-! words that stay true under warmer tables -/
def mc_wb : Cond → Bool
  | .castable _ _ => true
  | .not (.castable _ _) => true
  | .declares _ => true
  | .privateMethod _ => true
  | .fieldLinkNest _ _ _ _ _ _ => true
  | .methodLinkNest _ _ _ _ => true
  | w => goodWord w
theorem mc_warm {w : Cond} (hw : mc_wb w = true) {s U : State} {x y : Array Value} (hW : s.WarmedH U.vm) (h : w.before x s = true) : w.before y U = true := by
  unfold mc_wb at hw
  split at hw
  · exact Cond.before_shiftedFace (State.Shifted.of_warmed hW) _ rfl h
  · exact Cond.before_shiftedCast (State.Shifted.of_warmed hW) _ rfl h
  · exact Cond.before_shiftedFace (State.Shifted.of_warmed hW) _ rfl h
  · exact Cond.before_shiftedFace (State.Shifted.of_warmed hW) _ rfl h
  · exact va_Nw.use rfl (va_Nw.warmF hW (va_Nw.of rfl h))
  · exact va_Nw.use rfl (va_Nw.warmM hW (va_Nw.of rfl h))
  · exact word_at hW (good_of_word hw) h
/-- pairs that can't be cast: a thrown kind, a clause that isn't its own -/
def pg_nc : List Cond := [.not (.castable "java/lang/IllegalArgumentException" "java/lang/IndexOutOfBoundsException"), .not (.castable "java/lang/IllegalStateException" "java/lang/IllegalArgumentException")]
def pg_ws : List Cond := (lw_tbl ++ pg_nc).filter mc_wb
theorem pg_in {w : Cond} (hb : mc_wb w = true) (h : w ∈ tables_1) : w ∈ pg_ws := List.mem_filter.mpr ⟨List.mem_append_left _ (List.mem_append_right _ h), hb⟩
theorem pg_inT {w : Cond} (hb : mc_wb w = true) (h : w ∈ lw_tbl) : w ∈ pg_ws := List.mem_filter.mpr ⟨List.mem_append_left _ h, hb⟩
theorem pg_inN {w : Cond} (hb : mc_wb w = true) (h : w ∈ pg_nc) : w ∈ pg_ws := List.mem_filter.mpr ⟨List.mem_append_right _ h, hb⟩
/-! links by numbers -/
def pg_fw (q : Nat × Nat × Nat × Nat × Nat × Nat) : Cond := match pg_cl[q.2.2.1]? with
  | some r => match q.2.2.2.2.1 with
    | 0 => .fieldLink (pg_cn q.1) q.2.1 r.1 (r.2.1 q.2.2.2.1).2.1 (r.2.1 q.2.2.2.1).2.2.1
    | _ => .fieldLinkNest (pg_cn q.1) q.2.1 r.1 (r.2.1 q.2.2.2.1).2.1 (r.2.1 q.2.2.2.1).2.2.1 "PaletteReel"
  | none => .initialized ""
def pg_mw (q : Nat × Nat × Nat × Nat × Nat) : Cond := match q.2.2.2.1 with
  | 0 => .methodLink (pg_cn q.1) q.2.1 (pg_y q.2.2.1)
  | _ => .methodLinkNest (pg_cn q.1) q.2.1 (pg_y q.2.2.1) "PaletteReel"
theorem pg_fl_tab : ∀ q ∈ pg_fl, tables_1[q.2.2.2.2.2]? = some (pg_fw q) := by decide +kernel
theorem pg_ml_tab : ∀ q ∈ pg_ml, tables_1[q.2.2.2.2]? = some (pg_mw q) := by decide +kernel
