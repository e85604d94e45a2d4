/-! loops with what holds at each turn; points of the screen -/
section
variable {I M : rl_M} {J : Nat → Nat → Int64} {r N n : Nat} {Q : mc_Q} {a b k j : Nat} {v : Int32}
/-- a loop of so many turns, with what holds at each -/
theorem lp_inv {α : Type} {C : Nat → α → mc_C} {P : Nat → α → Prop} {Q : mc_Q} (n : Nat) (hs : ∀ k, k < n → ∀ i, P k i → (∀ i', P (k + 1) i' → mc_WP (C (k + 1) i') Q) → mc_WP (C k i) Q) (he : ∀ i, P n i → mc_WP (C n i) Q) : ∀ m k, k + m = n → ∀ i, P k i → mc_WP (C k i) Q
  | 0, k, h, i, hp => by cases h; exact he i hp
  | m + 1, k, h, i, hp => hs k (by omega) i hp (fun i' hp' => lp_inv n hs he m (k + 1) (by omega) i' hp')
theorem lp_go {α : Type} {C : Nat → α → mc_C} {P : Nat → α → Prop} {Q : mc_Q} (n : Nat) (i : α) (h0 : P 0 i) (hs : ∀ k, k < n → ∀ i, P k i → (∀ i', P (k + 1) i' → mc_WP (C (k + 1) i') Q) → mc_WP (C k i) Q) (he : ∀ i, P n i → mc_WP (C n i) Q) : mc_WP (C 0 i) Q :=
  lp_inv n hs he n 0 (Nat.zero_add n) i h0
theorem up_if : mc_up I a k v b j = if b = a ∧ j = k then v else I b j := rfl
theorem on_le {k m : Nat} (hk : k < 2147483648) (hm : m < 2147483648) : (Int32.ofNat k ≤ Int32.ofNat m) ↔ k ≤ m := by
  rw [Int32.le_iff_toInt_le, on_t hk, on_t hm]
  omega
theorem on_lt {k m : Nat} (hk : k < 2147483648) (hm : m < 2147483648) : (Int32.ofNat k < Int32.ofNat m) ↔ k < m := by
  rw [Int32.lt_iff_toInt_lt, on_t hk, on_t hm]
  omega
theorem on_vp {k m : Nat} (hk : k < 2147483648) (h : k < m) : vp_in (Int32.ofNat k) m := by
  rw [vp_iff, on_t hk]
  omega
theorem on_get (h : 0 ≤ v.toInt) : ∃ k : Nat, v = Int32.ofNat k ∧ v.toInt = k ∧ v.toNatClampNeg = k ∧ k < 2147483648 := by
  refine ⟨v.toNatClampNeg, on_of h, ?_, rfl, ?_⟩
  · rw [i3_tn]; omega
  · rw [i3_tn]
    have := Int32.toInt_lt v
    omega
theorem on_eq {k m : Nat} (hk : k < 2147483648) (hm : m < 2147483648) : (Int32.ofNat k = Int32.ofNat m) ↔ k = m := by
  rw [← Int32.toInt_inj, on_t hk, on_t hm]
  omega
theorem on_sub {k m : Nat} (h : m ≤ k) : Int32.ofNat k - Int32.ofNat m = Int32.ofNat (k - m) := by
  rw [show Int32.ofNat k = Int32.ofNat (k - m + m) by rw [Nat.sub_add_cancel h], Int32.ofNat_add, Int32.add_sub_cancel]
theorem on_8 {y x : Nat} : Int32.ofNat y * (8 : Int32) + Int32.ofNat x = Int32.ofNat (8 * y + x) := by
  rw [Int32.ofNat_add, Int32.ofNat_mul, Int32.mul_comm]; rfl
theorem on_8' {y x : Nat} : (8 : Int32) * Int32.ofNat y + Int32.ofNat x = Int32.ofNat (8 * y + x) := by
  rw [Int32.ofNat_add, Int32.ofNat_mul]; rfl
theorem on_9 {f k : Nat} : (9 : Int32) * (Int32.ofNat f + 1) + Int32.ofNat k = Int32.ofNat (9 * (f + 1) + k) := by
  rw [Int32.ofNat_add, Int32.ofNat_mul, Int32.ofNat_add]; rfl
/-- the reel, seen through other rows -/
theorem rl_vc (h : ∀ o, o < 20 → M (r + o) = I (r + o)) : rl_v r M = rl_v r I := by
  funext o
  unfold rl_v
  split
  · exact h o (by assumption)
  · rfl
end
