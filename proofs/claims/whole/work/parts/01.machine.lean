/-! THE SMALL MACHINE: bytecode over a memory of numbers; a reference is the number of a place (0: null). -/
/-- ints (place, slot), longs, references, shapes (1, class), (2, length of ints), (3, length of refs), (4, length of longs); the next place (0: no more are made) -/
abbrev mc_M : Type := (Nat → Nat → Int32) × (Nat → Nat → Int64) × (Nat → Nat → Nat) × (Nat → Nat × Nat) × Nat
/-- how a method ends: with an answer, or by the exception of a kind -/
abbrev mc_O : Type := Option Value ⊕ Nat
abbrev mc_Q : Type := mc_O → mc_M → Prop
abbrev mc_U : Type := Nat × Nat
/-- pc, instruction, length, three numbers that the tables give -/
abbrev mc_E : Type := Nat × Instr × Nat × Nat × Nat × Nat
/-- method, pc, locals, stack, memory, cells and slots made so far -/
abbrev mc_C : Type := Nat × Nat × List Value × List Value × mc_M × mc_U
def mc_up {α : Type} (f : Nat → Nat → α) (a k : Nat) (v : α) : Nat → Nat → α := fun b j => if b = a ∧ j = k then v else f b j
def mc_row {α : Type} (f : Nat → α) (a : Nat) (v : α) : Nat → α := fun b => if b = a then v else f b
def mc_cpy {α : Type} (f : Nat → Nat → α) (a b sp dp n : Nat) : Nat → Nat → α := fun c j => if c = b ∧ dp ≤ j ∧ j < dp + n then f a (sp + (j - dp)) else f c j
def mc_at : List Value → Nat → Value
  | [], _ => .null
  | v :: _, 0 => v
  | _ :: r, n + 1 => mc_at r n
def mc_kill : Value → Value
  | .long _ => .null
  | .double _ => .null
  | v => v
def mc_set : List Value → Nat → Value → List Value
  | [], _, _ => []
  | _ :: r, 0, v => v :: r
  | a :: r, 1, v => mc_kill a :: mc_set r 0 v
  | a :: r, n + 2, v => a :: mc_set r (n + 1) v
/-- an obligation, if there is one; locals, stack, memory, what was made -/
abbrev mc_R : Type := Option (Option Prop × List Value × List Value × mc_M × mc_U)
section
variable (L st : List Value) (σ : mc_M) (u : mc_U)
def mc_ldi (i : Nat) : mc_R := match mc_at L i with
  | .int x => some (none, L, .int x :: st, σ, u)
  | _ => none
def mc_ldl (i : Nat) : mc_R := match mc_at L i with
  | .long x => some (none, L, .long x :: st, σ, u)
  | _ => none
def mc_lda (i : Nat) : mc_R := match mc_at L i with
  | .ref x => some (none, L, .ref x :: st, σ, u)
  | _ => none
def mc_sti (i : Nat) : mc_R := match st with
  | .int x :: r => some (none, mc_set L i (.int x), r, σ, u)
  | _ => none
def mc_sta (i : Nat) : mc_R := match st with
  | .ref x :: r => some (none, mc_set L i (.ref x), r, σ, u)
  | _ => none
def mc_inc (i : Nat) (k : Int) : mc_R := match mc_at L i with
  | .int x => some (none, mc_set L i (.int (x + Int32.ofInt k)), st, σ, u)
  | _ => none
def mc_ii (f : Int32 → Int32 → Int32) : mc_R := match st with
  | .int y :: .int x :: r => some (none, L, .int (f x y) :: r, σ, u)
  | _ => none
def mc_iio (f : Int32 → Int32 → Int32) : mc_R := match st with
  | .int y :: .int x :: r => some (some (¬ y = 0), L, .int (f x y) :: r, σ, u)
  | _ => none
def mc_ll (f : Int64 → Int64 → Int64) : mc_R := match st with
  | .long y :: .long x :: r => some (none, L, .long (f x y) :: r, σ, u)
  | _ => none
def mc_li (f : Int64 → Int32 → Int64) : mc_R := match st with
  | .int y :: .long x :: r => some (none, L, .long (f x y) :: r, σ, u)
  | _ => none
/-- one slot's value -/
def mc_one : Value → Bool
  | .int _ => true
  | .ref _ => true
  | _ => false
def mc_dup : mc_R := match st with
  | v :: r => match mc_one v with
    | true => some (none, L, v :: v :: r, σ, u)
    | false => none
  | _ => none
def mc_pop : mc_R := match st with
  | v :: r => match mc_one v with
    | true => some (none, L, r, σ, u)
    | false => none
  | _ => none
def mc_dupx1 : mc_R := match st with
  | v :: x :: r => match mc_one v, mc_one x with
    | true, true => some (none, L, v :: x :: v :: r, σ, u)
    | _, _ => none
  | _ => none
def mc_dupx2 : mc_R := match st with
  | v :: x :: y :: r => match mc_one v, mc_one x, mc_one y with
    | true, true, true => some (none, L, v :: x :: y :: v :: r, σ, u)
    | _, _, _ => none
  | _ => none
def mc_dup2 : mc_R := match st with
  | v :: x :: r => match mc_one v, mc_one x with
    | true, true => some (none, L, v :: x :: v :: x :: r, σ, u)
    | _, _ => none
  | _ => none
/-- a field: class x, place y, kind z (0: int, 1: boolean, 2: reference) -/
def mc_get (x y z : Nat) : mc_R := match st with
  | .ref a :: r => match z with
    | 2 => some (some (σ.2.2.2.1 a = (1, x) ∧ ¬ σ.2.2.1 a y = 0), L, .ref (σ.2.2.1 a y) :: r, σ, u)
    | _ => some (some (σ.2.2.2.1 a = (1, x)), L, .int (σ.1 a y) :: r, σ, u)
  | _ => none
def mc_putf (x y z : Nat) : mc_R := match z, st with
  | 0, .int v :: .ref a :: r => some (some (σ.2.2.2.1 a = (1, x)), L, r, (mc_up σ.1 a y v, σ.2), u)
  | 1, .int v :: .ref a :: r => some (some (σ.2.2.2.1 a = (1, x) ∧ (v = 0 ∨ v = 1)), L, r, (mc_up σ.1 a y v, σ.2), u)
  | 2, .ref v :: .ref a :: r => some (some (σ.2.2.2.1 a = (1, x) ∧ ¬ v = 0), L, r, (σ.1, σ.2.1, mc_up σ.2.2.1 a y v, σ.2.2.2), u)
  | _, _ => none
def mc_iald : mc_R := match st with
  | .int i :: .ref a :: r => some (some ((σ.2.2.2.1 a).1 = 2 ∧ vp_in i (σ.2.2.2.1 a).2), L, .int (σ.1 a i.toNatClampNeg) :: r, σ, u)
  | _ => none
def mc_iast : mc_R := match st with
  | .int v :: .int i :: .ref a :: r => some (some ((σ.2.2.2.1 a).1 = 2 ∧ vp_in i (σ.2.2.2.1 a).2 ∧ 10 ≤ a), L, r, (mc_up σ.1 a i.toNatClampNeg v, σ.2), u)
  | _ => none
def mc_lald : mc_R := match st with
  | .int i :: .ref a :: r => some (some ((σ.2.2.2.1 a).1 = 4 ∧ vp_in i (σ.2.2.2.1 a).2), L, .long (σ.2.1 a i.toNatClampNeg) :: r, σ, u)
  | _ => none
def mc_last : mc_R := match st with
  | .long v :: .int i :: .ref a :: r => some (some ((σ.2.2.2.1 a).1 = 4 ∧ vp_in i (σ.2.2.2.1 a).2 ∧ 10 ≤ a), L, r, (σ.1, mc_up σ.2.1 a i.toNatClampNeg v, σ.2.2), u)
  | _ => none
def mc_aald : mc_R := match st with
  | .int i :: .ref a :: r => some (some ((σ.2.2.2.1 a).1 = 3 ∧ vp_in i (σ.2.2.2.1 a).2 ∧ ¬ σ.2.2.1 a i.toNatClampNeg = 0), L, .ref (σ.2.2.1 a i.toNatClampNeg) :: r, σ, u)
  | _ => none
/-- x: the class of what such an array holds -/
def mc_aast (x : Nat) : mc_R := match st with
  | .ref v :: .int i :: .ref a :: r => some (some ((σ.2.2.2.1 a).1 = 3 ∧ vp_in i (σ.2.2.2.1 a).2 ∧ 10 ≤ a ∧ σ.2.2.2.1 v = (1, x) ∧ ¬ v = 0), L, r, (σ.1, σ.2.1, mc_up σ.2.2.1 a i.toNatClampNeg v, σ.2.2.2), u)
  | _ => none
def mc_alen : mc_R := match st with
  | .ref a :: r => some (some (2 ≤ (σ.2.2.2.1 a).1 ∧ (σ.2.2.2.1 a).1 ≤ 4), L, .int (Int32.ofNat (σ.2.2.2.1 a).2) :: r, σ, u)
  | _ => none
/-- a new place of shape t -/
def mc_mk (t : Nat × Nat) : mc_M := (mc_row σ.1 σ.2.2.2.2 (fun _ => 0), mc_row σ.2.1 σ.2.2.2.2 (fun _ => 0), mc_row σ.2.2.1 σ.2.2.2.2 (fun _ => 0), mc_row σ.2.2.2.1 σ.2.2.2.2 t, σ.2.2.2.2 + 1)
/-- an object of class x with y slots, within the budget b -/
def mc_newo (b : mc_U) (x y : Nat) : mc_R := some (some (10 ≤ σ.2.2.2.2 ∧ u.1 + 1 ≤ b.1 ∧ u.2 + y ≤ b.2), L, .ref σ.2.2.2.2 :: st, mc_mk σ (1, x), (u.1 + 1, u.2 + y))
/-- an array of kind x -/
def mc_newa (b : mc_U) (x : Nat) : mc_R := match st with
  | .int n :: r => some (some (10 ≤ σ.2.2.2.2 ∧ ¬ n < 0 ∧ n.toNatClampNeg ≤ 1000 ∧ u.1 + 1 ≤ b.1 ∧ u.2 + n.toNatClampNeg ≤ b.2), L, .ref σ.2.2.2.2 :: r, mc_mk σ (x, n.toNatClampNeg), (u.1 + 1, u.2 + n.toNatClampNeg))
  | _ => none
def mc_copy : mc_R := match st with
  | .int n :: .int dp :: .ref b :: .int sp :: .ref a :: r => some (some ((σ.2.2.2.1 a).1 = 2 ∧ (σ.2.2.2.1 b).1 = 2 ∧ 10 ≤ b ∧ ¬ sp < 0 ∧ ¬ dp < 0 ∧ ¬ n < 0 ∧ sp.toNatClampNeg + n.toNatClampNeg ≤ (σ.2.2.2.1 a).2 ∧ dp.toNatClampNeg + n.toNatClampNeg ≤ (σ.2.2.2.1 b).2), L, r, (mc_cpy σ.1 a b sp.toNatClampNeg dp.toNatClampNeg n.toNatClampNeg, σ.2), u)
  | _ => none
def mc_obj : mc_R := match st with
  | .ref _ :: r => some (none, L, r, σ, u)
  | _ => none
end
