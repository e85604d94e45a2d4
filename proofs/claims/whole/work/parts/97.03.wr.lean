/-! write: widths, bits, blocks: both sides -/
section
variable {I M M' : rl_M} {J : Nat → Nat → Int64} {r N n : Nat} {Q : mc_Q} {L D : List Int32} {v bf : Int32} {k b g w m f code nx en a0 : Nat} {s : List Int32 × Nat × Nat}
theorem wd_ge {i : Nat} (h : i < wd_n g) : 2 ^ i ≤ g := by
  unfold wd_n at h
  have p0 : (2 : Nat) ^ 0 = 1 := rfl
  have p1 : (2 : Nat) ^ 1 = 2 := rfl
  have p2 : (2 : Nat) ^ 2 = 4 := rfl
  have p3 : (2 : Nat) ^ 3 = 8 := rfl
  have p4 : (2 : Nat) ^ 4 = 16 := rfl
  have p5 : (2 : Nat) ^ 5 = 32 := rfl
  have hi : i = 0 ∨ i = 1 ∨ i = 2 ∨ i = 3 ∨ i = 4 ∨ i = 5 := by
    repeat' split at h
    all_goals omega
  rcases hi with rfl | rfl | rfl | rfl | rfl | rfl <;> (repeat' split at h) <;> omega
theorem sh_2 {i : Nat} (h : i ≤ 6) : (1 : Int32) <<< (Int32.ofNat i &&& 31) = Int32.ofNat (2 ^ i) ∧ 2 ^ i ≤ 64 := by
  rcases (show i = 0 ∨ i = 1 ∨ i = 2 ∨ i = 3 ∨ i = 4 ∨ i = 5 ∨ i = 6 by omega) with rfl | rfl | rfl | rfl | rfl | rfl | rfl <;> exact ⟨rfl, by decide⟩
/-- the greatest number that may come -/
def gr_v (en nx : Nat) (bf : Int32) : Nat := if bf = -1 then en else if nx ≤ 63 then nx else 63
theorem cc_width (hG : is_G a0) (h5 : M a0 5 = Int32.ofNat en) (h6 : M a0 6 = Int32.ofNat nx) (h7 : M a0 7 = bf) (he : en < 64) (hn : nx ≤ 64) (hk : Q (.inl (some (.int (Int32.ofNat (wd_n (gr_v en nx bf)))))) (M, J, rf_w r, sh_w N, n)) :
    mc_WP (mc_en 199 [.ref a0] (M, J, rf_w r, sh_w N, n)) Q := by
  have run : ∀ g : Nat, g < 64 → Q (.inl (some (.int (Int32.ofNat (wd_n g))))) (M, J, rf_w r, sh_w N, n) → ∀ d i, i + d = wd_n g → mc_WP (199, 27, [.ref a0, .int (Int32.ofNat g), .int (Int32.ofNat i)], [], (M, J, rf_w r, sh_w N, n), (0, 0)) Q := by
    intro g hg hq d
    induction d with
    | zero =>
      intro i hi
      have hi' : i = wd_n g := by omega
      have h6' := wd_6 g
      have hp := wd_p hg
      rw [← hi'] at hq hp
      refine bk_199_27 hG ⟨fun _ => hq, fun q => ⟨fun _ => hq, fun q2 => absurd ?_ q2⟩⟩
      rw [(sh_2 (i := i) (by omega)).1]
      exact (on_lt (by omega) (by have := (sh_2 (i := i) (by omega)).2; omega)).mpr hp
    | succ d ih =>
      intro i hi
      have h6' := wd_6 g
      have hge := wd_ge (g := g) (i := i) (by omega)
      obtain ⟨s1, s2⟩ := sh_2 (i := i) (by omega)
      refine bk_199_27 hG ⟨fun q => absurd ((on_le (k := 6) (by omega) (by omega)).mp q) (by omega), fun _ => ⟨fun q => absurd q ?_, fun _ => ?_⟩⟩
      · rw [s1, on_lt (by omega) (by omega)]; omega
      · rw [on_1]; exact ih (i + 1) (by omega)
  refine bk_199_0 hG ?_
  rw [h7]
  unfold gr_v at hk
  refine ⟨fun q => ?_, fun q => ?_⟩
  · rw [if_neg q] at hk
    rw [h6]
    by_cases q2 : nx ≤ 63
    · rw [if_pos q2] at hk
      have h63 : ¬ (63 : Int32) < Int32.ofNat nx := fun z => absurd ((on_lt (k := 63) (by omega) (by omega)).mp z) (by omega)
      rw [if_neg h63]
      exact run nx (by omega) hk (wd_n nx) 0 (by omega)
    · rw [if_neg q2] at hk
      have h63 : (63 : Int32) < Int32.ofNat nx := (on_lt (k := 63) (by omega) (by omega)).mpr (by omega)
      rw [if_pos h63]
      exact run 63 (by omega) hk (wd_n 63) 0 (by omega)
  · rw [if_pos (Classical.not_not.mp q)] at hk
    rw [h5]
    exact run en he hk (wd_n en) 0 (by omega)
theorem cm_width (h19 : M 84 19 = Int32.ofNat (en - 1)) (h18 : M 84 18 = Int32.ofNat nx) (h20 : M 84 20 = bf) (hbf : bf = -1 ∨ 0 ≤ bf.toInt) (he : 1 ≤ en ∧ en < 64) (hn : nx ≤ 64) (hk : Q (.inl (some (.int (Int32.ofNat (wd_n (gr_v en nx bf)))))) (M, J, rf_w r, sh_w N, n)) :
    mc_WP (mc_en 79 [.ref 84] (M, J, rf_w r, sh_w N, n)) Q := by
  have run : ∀ g : Nat, g < 64 → Q (.inl (some (.int (Int32.ofNat (wd_n g))))) (M, J, rf_w r, sh_w N, n) → ∀ d i, i + d = wd_n g → mc_WP (79, 37, [.ref 84, .int (Int32.ofNat g), .int (Int32.ofNat i)], [], (M, J, rf_w r, sh_w N, n), (0, 0)) Q := by
    intro g hg hq d
    have sh : ∀ i, i ≤ 6 → (Int32.ofNat g >>> (Int32.ofNat i &&& 31)).toInt = ((g / 2 ^ i : Nat) : Int) := fun i hi => by
      have ht : (Int32.ofNat g).toInt = g := on_t (by omega)
      have hs : ((Int32.ofNat i &&& 31).toBitVec.smod 32).toNat = i := by
        rcases (show i = 0 ∨ i = 1 ∨ i = 2 ∨ i = 3 ∨ i = 4 ∨ i = 5 ∨ i = 6 by omega) with rfl | rfl | rfl | rfl | rfl | rfl | rfl <;> decide
      rw [bn_shr _ _ i hs (by omega), ht]
      exact (Int.natCast_ediv _ _).symm
    induction d with
    | zero =>
      intro i hi
      have hi' : i = wd_n g := by omega
      have h6' := wd_6 g
      have hp := wd_p hg
      rw [← hi'] at hq hp
      refine bk_79_37 ⟨fun _ => hq, fun q => absurd ?_ q⟩
      rw [Int32.le_iff_toInt_le, sh i (by omega), Nat.div_eq_of_lt hp]
      decide
    | succ d ih =>
      intro i hi
      have h6' := wd_6 g
      have hge := wd_ge (g := g) (i := i) (by omega)
      refine bk_79_37 ⟨fun q => absurd q ?_, fun _ => ?_⟩
      · rw [Int32.le_iff_toInt_le, sh i (by omega), i3_0]
        have : 1 ≤ g / 2 ^ i := (Nat.one_le_div_iff (Nat.two_pow_pos i)).mpr hge
        omega
      · rw [on_1]; exact ih (i + 1) (by omega)
  refine bk_79_0 ?_
  rw [h20, h18, h19]
  unfold gr_v at hk
  have hb : (0 ≤ bf) ↔ ¬ bf = -1 := by
    rw [Int32.le_iff_toInt_le, i3_0]
    rcases hbf with z | z
    · rw [z]; decide
    · exact ⟨fun _ q => by rw [q] at z; exact absurd z (by decide), fun _ => z⟩
  rw [hb]
  refine ⟨fun q => ?_, fun q => ?_⟩
  · rw [if_neg q] at hk
    refine ⟨fun q2 => ?_, fun q2 => ?_⟩
    · rw [if_pos ((on_le (m := 63) (by omega) (by omega)).mp q2)] at hk
      have := (on_le (m := 63) (by omega) (by omega)).mp q2
      exact run nx (by omega) hk (wd_n nx) 0 (by omega)
    · rw [if_neg (fun z => q2 ((on_le (m := 63) (by omega) (by omega)).mpr z))] at hk
      exact run 63 (by omega) hk (wd_n 63) 0 (by omega)
  · rw [if_pos (Classical.not_not.mp q)] at hk
    rw [on_1, show en - 1 + 1 = en by omega]
    exact run en he.2 hk (wd_n en) 0 (by omega)
/-- the class's bits so far -/
def pc_is (M : rl_M) (s : List Int32 × Nat × Nat) : Prop := M 63 1 = Int32.ofNat s.1.length ∧ (∀ k a, s.1[k]? = some a → M 64 k = a) ∧ M 56 4 = Int32.ofNat s.2.1 ∧ M 56 5 = Int32.ofNat s.2.2
def pc_K (M M' : rl_M) : Prop := ∀ b, ¬ b = 56 → ¬ b = 63 → ¬ b = 64 → M' b = M b
theorem bt_i : ∀ code : Fin 64, ∀ i : Fin 6, ((Int32.ofNat code.1 >>> (Int32.ofNat i.1 &&& 31)) &&& (1 : Int32)) = Int32.ofNat (code.1 / 2 ^ i.1 % 2) := by decide +kernel
theorem bt_or {v c b : Nat} (hc : c < 8) (hv : v < 2 ^ c) (hb : b < 64) : Int32.ofNat v ||| (Int32.ofNat b <<< (Int32.ofNat c &&& 31)) = Int32.ofNat (v + b * 2 ^ c) := by
  have hv2 : v < 256 := by
    have : 2 ^ c ≤ 2 ^ 8 := Nat.pow_le_pow_right (by decide) (by omega)
    have e : (2 : Nat) ^ 8 = 256 := rfl
    omega
  have h8 : b * 2 ^ c ≤ 63 * 128 := Nat.mul_le_mul (by omega) (by have : 2 ^ c ≤ 2 ^ 7 := Nat.pow_le_pow_right (by decide) (by omega); exact this)
  have tv : (Int32.ofNat v).toBitVec.toNat = v := by show v % 2 ^ 32 = v; exact Nat.mod_eq_of_lt (by omega)
  have tb : (Int32.ofNat b).toBitVec.toNat = b := by show b % 2 ^ 32 = b; exact Nat.mod_eq_of_lt (by omega)
  have ts : (Int32.ofNat (v + b * 2 ^ c)).toBitVec.toNat = v + b * 2 ^ c := by show (v + b * 2 ^ c) % 2 ^ 32 = _; exact Nat.mod_eq_of_lt (by omega)
  have sh : (Int32.ofNat b <<< (Int32.ofNat c &&& 31)).toBitVec = (Int32.ofNat b).toBitVec <<< c := by
    rcases (show c = 0 ∨ c = 1 ∨ c = 2 ∨ c = 3 ∨ c = 4 ∨ c = 5 ∨ c = 6 ∨ c = 7 by omega) with rfl | rfl | rfl | rfl | rfl | rfl | rfl | rfl <;> rfl
  have e : (Int32.ofNat v ||| (Int32.ofNat b <<< (Int32.ofNat c &&& 31))).toBitVec.toNat = v + b * 2 ^ c := by
    show ((Int32.ofNat v).toBitVec ||| (Int32.ofNat b <<< (Int32.ofNat c &&& 31)).toBitVec).toNat = _
    rw [sh, BitVec.toNat_or, BitVec.toNat_shiftLeft, tv, tb, Nat.shiftLeft_eq, Nat.mod_eq_of_lt (by omega), Nat.or_comm, ← Nat.shiftLeft_eq, ← Nat.shiftLeft_add_eq_or_of_lt hv, Nat.shiftLeft_eq, Nat.add_comm]
  rw [← Int32.toInt_inj, bn_u _ (by rw [e]; omega), bn_u _ (by rw [ts]; omega), e, ts]
theorem pk_len1 (s : List Int32 × Nat × Nat) (b : Nat) : s.1.length ≤ (pk_1 s b).1.length ∧ 8 * (pk_1 s b).1.length + (pk_1 s b).2.2 = 8 * s.1.length + s.2.2 + 1 := by
  obtain ⟨D, v, c⟩ := s
  unfold pk_1
  dsimp only
  split
  · dsimp only; rw [List.length_append, List.length_singleton]; omega
  · dsimp only; omega
theorem pk_ok1 {b : Nat} (h : pk_ok s) (hb : b < 2) : pk_ok (pk_1 s b) := by
  obtain ⟨D, v, c⟩ := s
  obtain ⟨h1, h2⟩ := h
  dsimp only at h1 h2
  unfold pk_1 pk_ok
  dsimp only
  split
  · dsimp only; exact ⟨by decide, by decide⟩
  · dsimp only
    refine ⟨by omega, ?_⟩
    rw [Nat.pow_succ]
    have : b * 2 ^ c ≤ 1 * 2 ^ c := Nat.mul_le_mul_right _ (by omega)
    omega
theorem cc_bits {s0 : List Int32 × Nat × Nat} (hp : pc_is M s0) (hok : pk_ok s0) (hc : code < 64) (hw : w ≤ 6) (hl : 8 * s0.1.length + s0.2.2 + w ≤ 512)
    (hk : ∀ M', pc_K M M' → pc_is M' (pk_b s0 code w) → Q (.inl none) (M', J, rf_w r, sh_w N, n)) :
    mc_WP (mc_en 152 [.ref 56, .int (Int32.ofNat code), .int (Int32.ofNat w)] (M, J, rf_w r, sh_w N, n)) Q := by
  refine bk_152_0 ?_
  have run : ∀ d i s (M1 : rl_M), i + d = w → pc_K M M1 → pc_is M1 s → pk_ok s → 8 * s.1.length + s.2.2 + d ≤ 512 → (∀ M', pc_K M M' → pc_is M' (pk_b s (code / 2 ^ i) d) → Q (.inl none) (M', J, rf_w r, sh_w N, n)) → mc_WP (152, 2, [.ref 56, .int (Int32.ofNat code), .int (Int32.ofNat w), .int (Int32.ofNat i)], [], (M1, J, rf_w r, sh_w N, n), (0, 0)) Q := by
    intro d
    induction d with
    | zero =>
      intro i s M1 hi k1 p1 o1 l1 hq
      exact bk_152_2 ⟨fun _ => hq M1 k1 p1, fun q => absurd ((on_le (by omega) (by omega)).mpr (by omega)) q⟩
    | succ d ih =>
      intro i s M1 hi k1 p1 o1 l1 hq
      obtain ⟨D, v, c⟩ := s
      obtain ⟨p11, p12, p13, p14⟩ := p1
      obtain ⟨o11, o12⟩ := id o1
      dsimp only at p11 p12 p13 p14 o11 o12 l1
      have hbit : (Int32.ofNat code >>> (Int32.ofNat i &&& 31) &&& 1) = Int32.ofNat (code / 2 ^ i % 2) := bt_i ⟨code, hc⟩ ⟨i, by omega⟩
      have hb2 : code / 2 ^ i % 2 < 2 := Nat.mod_lt _ (by decide)
      have nxt : ∀ M2, pc_K M M2 → pc_is M2 (pk_1 (D, v, c) (code / 2 ^ i % 2)) → mc_WP (152, 2, [.ref 56, .int (Int32.ofNat code), .int (Int32.ofNat w), .int (Int32.ofNat (i + 1))], [], (M2, J, rf_w r, sh_w N, n), (0, 0)) Q := fun M2 k2 p2 => by
        refine ih (i + 1) _ M2 (by omega) k2 p2 (pk_ok1 o1 hb2) (by have := (pk_len1 (D, v, c) (code / 2 ^ i % 2)).2; dsimp only at this; omega) fun M' k' p' => hq M' k' ?_
        rw [Nat.pow_succ, ← Nat.div_div_eq_div_mul] at p'
        exact p'
      refine bk_152_2 ⟨fun q => absurd ((on_le (by omega) (by omega)).mp q) (by omega), fun _ => ?_⟩
      rw [p14, p13, p11, hbit, bt_or o11 o12 (by omega), on_1 (k := c), on_1 (k := i), on_1 (k := D.length), on_n (k := D.length) (by omega), show (8 : Int32) = Int32.ofNat 8 from rfl, on_eq (by omega) (by omega)]
      unfold pk_1 at nxt
      dsimp only at nxt
      refine ⟨fun q => ?_, fun q => ?_⟩
      · rw [if_neg q] at nxt
        refine nxt _ (fun b q1 q2 q3 => by rw [up_ne q1, up_ne q1]; exact k1 b q1 q2 q3) ⟨?_, fun k a h => ?_, ?_, ?_⟩
        · rw [up_ne (by decide), up_ne (by decide)]; exact p11
        · rw [up_ne (by decide), up_ne (by decide)]; exact p12 k a h
        · rw [up_nk (by decide), up_at]
        · rw [up_at]
      · rw [if_pos (Classical.not_not.mp q)] at nxt
        refine ⟨fun q2 => absurd ((on_le (k := 64) (by omega) (by omega)).mp q2) (by omega), fun _ => ⟨on_vp (by omega) (by omega), nxt _ (fun b q1 q2 q3 => by rw [up_ne q1, up_ne q1, up_ne q2, up_ne q3, up_ne q1, up_ne q1]; exact k1 b q1 q2 q3) ⟨?_, ?_, ?_, ?_⟩⟩⟩
        · rw [up_ne (by decide), up_ne (by decide), up_at, List.length_append]; rfl
        · refine ob_app p12 (fun k hk' => ?_) ?_
          · rw [up_ne (by decide), up_ne (by decide), up_ne (by decide), up_nk (by omega), up_ne (by decide), up_ne (by decide)]
          · rw [up_ne (by decide), up_ne (by decide), up_ne (by decide), up_at]
        · rw [up_nk (by decide), up_at]; rfl
        · rw [up_at]; rfl
  exact run w 0 s0 M (by omega) (fun _ _ _ _ => rfl) hp hok (by omega) (fun M' k' p' => hk M' k' (by rw [Nat.pow_zero, Nat.div_one] at p'; exact p'))
end
