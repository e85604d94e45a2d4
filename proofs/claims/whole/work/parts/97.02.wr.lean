/-! write: bits into bytes, bytes into blocks: pure -/
section
variable {c v code w k b i : Nat} {D L : List Int32}
def pk_1 (s : List Int32 × Nat × Nat) (b : Nat) : List Int32 × Nat × Nat := if s.2.2 + 1 = 8 then (s.1 ++ [Int32.ofNat (s.2.1 + b * 2 ^ s.2.2)], 0, 0) else (s.1, s.2.1 + b * 2 ^ s.2.2, s.2.2 + 1)
def pk_b (s : List Int32 × Nat × Nat) (code : Nat) : Nat → List Int32 × Nat × Nat
  | 0 => s
  | w + 1 => pk_b (pk_1 s (code % 2)) (code / 2) w
def pk_m (s : List Int32 × Nat × Nat) (code w : Nat) : List Int32 × Nat × Nat := if s.2.2 + w < 8 then (s.1, s.2.1 + code * 2 ^ s.2.2, s.2.2 + w) else (s.1 ++ [Int32.ofNat ((s.2.1 + code * 2 ^ s.2.2) % 256)], (s.2.1 + code * 2 ^ s.2.2) / 256, s.2.2 + w - 8)
def pk_ok (s : List Int32 × Nat × Nat) : Prop := s.2.2 < 8 ∧ s.2.1 < 2 ^ s.2.2
theorem pkb_eq : ∀ (w code : Nat) (s : List Int32 × Nat × Nat), pk_ok s → code < 2 ^ w → s.2.2 + w < 16 → pk_b s code w = pk_m s code w
  | 0, code, s, h, hc, hw => by
    have : code = 0 := by simp at hc; omega
    subst this
    unfold pk_m pk_b
    rw [if_pos (by have := h.1; omega), Nat.zero_mul, Nat.add_zero, Nat.add_zero]
  | w + 1, code, (D, v, c), h, hc, hw => by
    obtain ⟨h1, h2⟩ := h
    dsimp only at h1 h2 hw
    have hdiv : code / 2 < 2 ^ w := by
      rw [Nat.pow_succ] at hc
      omega
    have hb : code % 2 < 2 := Nat.mod_lt _ (by decide)
    have hco : code = code % 2 + 2 * (code / 2) := (Nat.mod_add_div code 2).symm
    show pk_b (pk_1 (D, v, c) (code % 2)) (code / 2) w = _
    unfold pk_1
    dsimp only
    by_cases q : c + 1 = 8
    · have hc7 : c = 7 := by omega
      subst hc7
      rw [if_pos q, pkb_eq w (code / 2) _ ⟨by show 0 < 8; omega, by show 0 < 2 ^ 0; decide⟩ hdiv (by show 0 + w < 16; omega)]
      unfold pk_m
      dsimp only
      rw [if_pos (by omega), if_neg (by omega)]
      have e128 : (2 : Nat) ^ 7 = 128 := rfl
      rw [e128] at h2 ⊢
      rw [show (v + code * 128) % 256 = v + code % 2 * 128 by omega, show (v + code * 128) / 256 = 0 + code / 2 * 2 ^ 0 by rw [Nat.pow_zero]; omega, show 7 + (w + 1) - 8 = 0 + w by omega]
    · rw [if_neg q, pkb_eq w (code / 2) _ ⟨by show c + 1 < 8; omega, ?_⟩ hdiv (by show c + 1 + w < 16; omega)]
      · have e : v + code % 2 * 2 ^ c + code / 2 * 2 ^ (c + 1) = v + code * 2 ^ c := by
          rw [Nat.pow_succ]
          have : code * 2 ^ c = (code % 2) * 2 ^ c + (code / 2) * (2 ^ c * 2) := by
            conv => lhs; rw [hco]
            rw [Nat.add_mul, Nat.mul_comm 2 (code / 2), Nat.mul_assoc, Nat.mul_comm 2]
          omega
        unfold pk_m
        dsimp only
        rw [e, show c + 1 + w = c + (w + 1) by omega]
      · show v + code % 2 * 2 ^ c < 2 ^ (c + 1)
        rw [Nat.pow_succ]
        have : code % 2 * 2 ^ c ≤ 1 * 2 ^ c := Nat.mul_le_mul_right _ (by omega)
        omega
theorem pk_mok {s : List Int32 × Nat × Nat} (h : pk_ok s) (hc : code < 2 ^ w) (hw : s.2.2 + w < 16) : pk_ok (pk_m s code w) := by
  obtain ⟨D, v, c⟩ := s
  obtain ⟨h1, h2⟩ := h
  dsimp only at h1 h2 hw
  have hb : v + code * 2 ^ c < 2 ^ (c + w) := by
    have h3 : (code + 1) * 2 ^ c ≤ 2 ^ w * 2 ^ c := Nat.mul_le_mul_right _ hc
    rw [Nat.add_mul, Nat.one_mul, ← Nat.pow_add, Nat.add_comm w c] at h3
    omega
  unfold pk_m pk_ok
  dsimp only
  by_cases q : c + w < 8
  · rw [if_pos q]
    exact ⟨q, hb⟩
  · rw [if_neg q]
    refine ⟨by show c + w - 8 < 8; omega, ?_⟩
    show (v + code * 2 ^ c) / 256 < 2 ^ (c + w - 8)
    have e : 2 ^ (c + w) = 2 ^ (c + w - 8) * 256 := by rw [show (256 : Nat) = 2 ^ 8 from rfl, ← Nat.pow_add, show c + w - 8 + 8 = c + w by omega]
    rw [e] at hb
    exact Nat.div_lt_of_lt_mul (Nat.lt_of_lt_of_eq hb (Nat.mul_comm _ _))
/-- bytes into blocks -/
def bs_p (s : List Int32 × List Int32) (b : Int32) : List Int32 × List Int32 := if s.2.length = 20 then (s.1 ++ [Int32.ofNat 20] ++ s.2, [b]) else (s.1, s.2 ++ [b])
theorem bp_f {C B : List Int32} {b : Int32} (h : B.length = 20) : bs_p (C, B) b = (C ++ [Int32.ofNat 20] ++ B, [b]) := by unfold bs_p; rw [if_pos h]
theorem bp_n {C B : List Int32} {b : Int32} (h : ¬ B.length = 20) : bs_p (C, B) b = (C, B ++ [b]) := by unfold bs_p; rw [if_neg h]
def bs_o (s : List Int32 × List Int32) : List Int32 := match s.2 with
  | [] => s.1
  | x :: l => s.1 ++ [Int32.ofNat (x :: l).length] ++ (x :: l)
def bs_f (L D : List Int32) : List Int32 × List Int32 := D.foldl bs_p (L, [])
theorem bs_short : ∀ (D B L : List Int32), B.length + D.length ≤ 20 → D.foldl bs_p (L, B) = (L, B ++ D)
  | [], B, L, _ => by rw [List.append_nil]; rfl
  | b :: D, B, L, h => by
    have h' : B.length + (D.length + 1) ≤ 20 := h
    show D.foldl bs_p (bs_p (L, B) b) = _
    rw [bp_n (by omega), bs_short D (B ++ [b]) L (by rw [List.length_append, List.length_singleton]; omega), List.append_assoc]
    rfl
theorem bs_full {B : List Int32} (hB : B.length = 20) (hD : D ≠ []) : D.foldl bs_p (L, B) = D.foldl bs_p (L ++ [Int32.ofNat 20] ++ B, []) := by
  cases D with
  | nil => exact absurd rfl hD
  | cons b D =>
    show D.foldl bs_p (bs_p (L, B) b) = D.foldl bs_p (bs_p (L ++ [Int32.ofNat 20] ++ B, []) b)
    rw [bp_f hB, bp_n (by decide)]
    rfl
/-- block by block -/
theorem bs_step (h : 20 < D.length) : bs_f L D = bs_f (L ++ [Int32.ofNat 20] ++ D.take 20) (D.drop 20) := by
  unfold bs_f
  have e : D = D.take 20 ++ D.drop 20 := (List.take_append_drop 20 D).symm
  conv => lhs; rw [e]
  rw [List.foldl_append, bs_short _ [] L (by rw [List.length_take, List.length_nil]; omega), List.nil_append]
  refine bs_full (by rw [List.length_take]; omega) (fun q => ?_)
  have := congrArg List.length q
  rw [List.length_drop, List.length_nil] at this
  omega
theorem bs_last (h : D.length ≤ 20) (h1 : 1 ≤ D.length) : bs_o (bs_f L D) = L ++ [Int32.ofNat D.length] ++ D := by
  unfold bs_f
  rw [bs_short D [] L (by rw [List.length_nil]; omega), List.nil_append]
  unfold bs_o
  cases D with
  | nil => exact absurd h1 (by decide)
  | cons b D => rfl
theorem bs_snoc {b : Int32} : bs_f L (D ++ [b]) = bs_p (bs_f L D) b := by
  unfold bs_f
  rw [List.foldl_append]
  rfl
theorem bs_len : ∀ (D C B : List Int32), B.length ≤ 20 → (D.foldl bs_p (C, B)).2.length ≤ 20 ∧ (1 ≤ B.length + D.length → 1 ≤ (D.foldl bs_p (C, B)).2.length)
  | [], C, B, h => ⟨h, fun q => q⟩
  | b :: D, C, B, h => by
    show (D.foldl bs_p (bs_p (C, B) b)).2.length ≤ 20 ∧ (_ → 1 ≤ (D.foldl bs_p (bs_p (C, B) b)).2.length)
    by_cases q : B.length = 20
    · rw [bp_f q]
      have := bs_len D (C ++ [Int32.ofNat 20] ++ B) [b] (by show 1 ≤ 20; decide)
      exact ⟨this.1, fun _ => this.2 (by show 1 ≤ 1 + _; omega)⟩
    · rw [bp_n q]
      have := bs_len D C (B ++ [b]) (by rw [List.length_append, List.length_singleton]; omega)
      exact ⟨this.1, fun _ => this.2 (by rw [List.length_append, List.length_singleton]; omega)⟩
/-- how long it comes to be -/
theorem bs_olen : ∀ (D C B : List Int32), B.length ≤ 20 → (bs_o (D.foldl bs_p (C, B))).length ≤ C.length + B.length + 1 + 2 * D.length
  | [], C, B, h => by
    show (bs_o (C, B)).length ≤ _
    unfold bs_o
    cases B with
    | nil => show C.length ≤ C.length + 0 + 1 + 2 * 0; omega
    | cons b B =>
      show (C ++ [Int32.ofNat (b :: B).length] ++ (b :: B)).length ≤ _
      rw [List.length_append, List.length_append, List.length_singleton]
      omega
  | b :: D, C, B, h => by
    show (bs_o (D.foldl bs_p (bs_p (C, B) b))).length ≤ C.length + B.length + 1 + 2 * (D.length + 1)
    by_cases q : B.length = 20
    · rw [bp_f q]
      have := bs_olen D (C ++ [Int32.ofNat 20] ++ B) [b] (by show 1 ≤ 20; decide)
      rw [List.length_append, List.length_append, List.length_singleton, List.length_singleton] at this
      omega
    · rw [bp_n q]
      have := bs_olen D C (B ++ [b]) (by rw [List.length_append, List.length_singleton]; omega)
      rw [List.length_append, List.length_singleton] at this
      omega
/-- a number's bits -/
def wd_n (g : Nat) : Nat := if g < 1 then 0 else if g < 2 then 1 else if g < 4 then 2 else if g < 8 then 3 else if g < 16 then 4 else if g < 32 then 5 else 6
theorem wd_6 (g : Nat) : wd_n g ≤ 6 := by unfold wd_n; repeat' split <;> try omega
theorem wd_p {g : Nat} (h : g < 64) : g < 2 ^ wd_n g := by
  unfold wd_n
  repeat' split
  all_goals (first | (show g < 2 ^ 0; rw [Nat.pow_zero]; omega) | (show g < 2 ^ 1; omega) | (show g < 2 ^ 2; omega) | (show g < 2 ^ 3; omega) | (show g < 2 ^ 4; omega) | (show g < 2 ^ 5; omega) | (show g < 2 ^ 6; omega))
end
