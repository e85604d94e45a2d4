section
variable {I : rl_M} {J : Nat → Nat → Int64} {P : Nat → Nat → Nat} {S : Nat → Nat × Nat} {n a q z : Nat} {Q : mc_Q} {v x1 x2 x3 : Int32}
theorem gg_fill (hs : S a = (2, z)) (ha : 10 ≤ a) (hz : z ≤ 1000) : ∀ (m lo : Nat) (I : rl_M), lo + m = z → Q (.inl none) (mc_fl I a lo m v, J, P, S, n) → mc_WP (205, 5, [.ref a, .int v, .int (Int32.ofNat lo), .int (Int32.ofNat z)], [], (I, J, P, S, n), (0, 0)) Q
  | 0, lo, I, h, hq => by
    rw [fl_0] at hq
    exact bg_205_5 ⟨fun _ => hq, fun q => absurd (by rw [Int32.le_iff_toInt_le, on_t (by omega), on_t (by omega)]; omega) q⟩
  | m + 1, lo, I, h, hq => by
    refine bg_205_5 ⟨fun q => absurd q (by rw [Int32.le_iff_toInt_le, on_t (by omega), on_t (by omega)]; omega), fun _ => ⟨⟨by rw [hs], by rw [hs, vp_iff, on_t (by omega)]; omega, ha⟩, ?_⟩⟩
    rw [on_1, on_n (by omega)]
    exact gg_fill hs ha hz m (lo + 1) _ (by omega) (by rw [fl_c]; exact hq)
theorem gg_empty (h1 : S a = (1, 2)) (h2 : P a 0 = q) (h3 : S q = (2, 64)) (h4 : 10 ≤ q) (hq : Q (.inl none) (mc_fl I q 0 64 (-1), J, P, S, n)) : mc_WP (mc_en 127 [.ref a] (I, J, P, S, n)) Q := by
  refine bg_127_0 ⟨⟨h1, by omega⟩, mc_inl ?_⟩
  rw [h2]
  refine bg_205_0 ⟨by rw [h3]; decide, ?_⟩
  rw [h3]
  exact gg_fill h3 h4 (by decide) 64 0 I (by omega) (bg_127_8 hq)
theorem gg_rz (h1 : S a = (1, 6)) (h2 : P a 0 = q) (h3 : S q = (2, 16)) (h4 : 10 ≤ q) : ∀ (m lo : Nat) (I : rl_M), lo + m = 16 → Q (.inl none) (mc_up (mc_fl I q lo m 0) a 1 x1, J, P, S, n) → mc_WP (156, 9, [.ref a, .int x1, .int (Int32.ofNat lo)], [], (I, J, P, S, n), (0, 0)) Q
  | 0, lo, I, h, hq => by
    rw [fl_0] at hq
    exact bg_156_9 ⟨fun _ => ⟨h1, hq⟩, fun q => absurd (by rw [Int32.le_iff_toInt_le, on_t (by omega), i3_16]; omega) q⟩
  | m + 1, lo, I, h, hq => by
    refine bg_156_9 ⟨fun q => absurd q (by rw [Int32.le_iff_toInt_le, on_t (by omega), i3_16]; omega), fun _ => ⟨⟨h1, by omega⟩, ?_⟩⟩
    rw [h2, h3, on_1, on_n (by omega)]
    exact ⟨⟨rfl, by rw [vp_iff, on_t (by omega)]; omega, h4⟩, gg_rz h1 h2 h3 h4 m (lo + 1) _ (by omega) (by rw [fl_c]; exact hq)⟩
theorem gg_begin {b : Nat} (h0 : S b = (1, 9)) (hb : P b 0 = a) (h1 : S a = (1, 6)) (h2 : P a 0 = q) (h3 : S q = (2, 16)) (h4 : 10 ≤ q) (hne : ¬ a = b) (ha0 : ¬ a = 0) (hz : I a 1 = 0) (hx : 0 < x3.toInt) (hq : Q (.inl none) (mc_up (mc_fl (mc_up (mc_up (mc_up I b 2 x1) b 3 x2) b 4 0) q 0 16 0) a 1 x3, J, P, S, n)) : mc_WP (mc_en 189 [.ref b, .int x1, .int x2, .int x3] (I, J, P, S, n)) Q := by
  refine bg_189_0 ⟨h0, h0, h0, ⟨h0, by omega⟩, by rw [hb]; exact h1, mc_inl ?_⟩
  rw [hb]
  refine bg_156_0 ⟨h1, ?_⟩
  have e : mc_up (mc_up (mc_up I b 2 x1) b 3 x2) b 4 0 a 1 = 0 := by rw [up_ne hne, up_ne hne, up_ne hne]; exact hz
  rw [e, if_neg (by rw [Int32.lt_iff_toInt_lt, i3_0]; omega)]
  exact gg_rz h1 h2 h3 h4 16 0 _ (by omega) (bg_189_23 hq)
theorem gg_clear (h1 : S a = (1, 11)) (h2 : P a 12 = q) (h3 : S q = (2, 64)) (h4 : 10 ≤ q) : ∀ (m lo : Nat) (I : rl_M), lo + m = 64 → Q (.inl none) (mc_fl I q lo m (-1), J, P, S, n) → mc_WP (59, 2, [.ref a, .int (Int32.ofNat lo)], [], (I, J, P, S, n), (0, 0)) Q
  | 0, lo, I, h, hq => by
    rw [fl_0] at hq
    exact bg_59_2 ⟨fun _ => hq, fun q => absurd (by rw [Int32.le_iff_toInt_le, on_t (by omega), i3_64]; omega) q⟩
  | m + 1, lo, I, h, hq => by
    refine bg_59_2 ⟨fun q => absurd q (by rw [Int32.le_iff_toInt_le, on_t (by omega), i3_64]; omega), fun _ => ⟨⟨h1, by omega⟩, ?_⟩⟩
    rw [h2, h3, on_1, on_n (by omega)]
    exact ⟨⟨rfl, by rw [vp_iff, on_t (by omega)]; omega, h4⟩, gg_clear h1 h2 h3 h4 m (lo + 1) _ (by omega) (by rw [fl_c]; exact hq)⟩
def cl_c (s : rl_A) (N k : Nat) : Int32 := if N ≤ k then 0 else s k
theorem gg_cell {N : Nat} (hN : N ≤ 3074) (hs : S 1 = (2, N)) {k : Nat} (hk : k < 100) (hx : x1 = Int32.ofNat k) (hq : Q (.inl (some (.int (cl_c (I 1) N k)))) (I, J, P, S, n)) : mc_WP (mc_en 204 [.ref 1, .int x1] (I, J, P, S, n)) Q := by
  refine bg_204_0 ⟨by rw [hs]; exact ⟨(by decide : 2 ≤ 2), (by decide : 2 ≤ 4)⟩, ?_⟩
  rw [hs, hx, on_n (by omega)]
  unfold cl_c at hq
  refine ⟨fun c => ?_, fun c => ⟨⟨rfl, ?_⟩, ?_⟩⟩
  · rw [Int32.le_iff_toInt_le, on_t (by show N < _; omega), on_t (by omega)] at c
    rw [if_pos (by have : (N : Int) ≤ k := c; omega)] at hq
    exact hq
  · rw [Int32.le_iff_toInt_le, on_t (by show N < _; omega), on_t (by omega)] at c
    rw [vp_iff, on_t (by omega)]
    have : ¬ (N : Int) ≤ k := c
    show 0 ≤ (k : Int) ∧ (k : Int) < (N : Int)
    omega
  · rw [Int32.le_iff_toInt_le, on_t (by show N < _; omega), on_t (by omega)] at c
    have : ¬ (N : Int) ≤ k := c
    rw [if_neg (by omega)] at hq
    exact hq
end
section
variable {B : rl_M} {B' : Nat → Nat → Int64} {lo N n p a y v : Nat} {l : List (Nat × Nat × Nat)} {Q : mc_Q} {x1 x2 : Int32}
/-- Reducer -/
theorem cp_26 (h10 : 10 ≤ n) (h : lo ≤ n) (hp : p < n) (ha0 : ¬ a = 0) (hs : sh_w N p = (1, 8)) (h1 : sh_w N n = (2, 64)) (h2 : sh_w N (n + 1) = (2, 64)) (h3 : sh_w N (n + 1 + 1) = (2, 16)) (h4 : sh_w N (n + 1 + 1 + 1) = (2, 16)) (h5 : sh_w N (n + 1 + 1 + 1 + 1) = (2, 16)) (h6 : sh_w N (n + 1 + 1 + 1 + 1 + 1) = (2, 192)) (h7 : sh_w N (n + 1 + 1 + 1 + 1 + 1 + 1) = (2, 3)) (hl : mk_b l n)
    (hq : Q (.inl none) (mk_M B B' lo N ((p, 0, a) :: (p, 7, n + 1 + 1 + 1 + 1 + 1 + 1) :: (p, 6, n + 1 + 1 + 1 + 1 + 1) :: (p, 5, n + 1 + 1 + 1 + 1) :: (p, 4, n + 1 + 1 + 1) :: (p, 3, n + 1 + 1) :: (p, 2, n + 1) :: (p, 1, n) :: l) (n + 1 + 1 + 1 + 1 + 1 + 1 + 1))) : mc_WP (mc_en 26 [.ref p, .ref a] (mk_M B B' lo N l n)) Q := by
  refine bg_26_0 ⟨h10, ⟨mk_Sr hp h1 hs, by omega⟩, ?_⟩
  rw [mk_newp h hl h1]
  have b1 := (hl.up (m := n + 1) (by omega)).cons (a := p) (y := 1) (v := n) (by omega)
  refine bg_26_12 ⟨by omega, ⟨mk_Sr (by omega) h2 hs, by omega⟩, ?_⟩
  rw [mk_newp (by omega) b1 h2]
  have b2 := (b1.up (m := n + 1 + 1) (by omega)).cons (a := p) (y := 2) (v := n + 1) (by omega)
  refine bg_26_20 ⟨by omega, ⟨mk_Sr (by omega) h3 hs, by omega⟩, ?_⟩
  rw [mk_newp (by omega) b2 h3]
  have b3 := (b2.up (m := n + 1 + 1 + 1) (by omega)).cons (a := p) (y := 3) (v := n + 1 + 1) (by omega)
  refine bg_26_28 ⟨by omega, ⟨mk_Sr (by omega) h4 hs, by omega⟩, ?_⟩
  rw [mk_newp (by omega) b3 h4]
  have b4 := (b3.up (m := n + 1 + 1 + 1 + 1) (by omega)).cons (a := p) (y := 4) (v := n + 1 + 1 + 1) (by omega)
  refine bg_26_36 ⟨by omega, ⟨mk_Sr (by omega) h5 hs, by omega⟩, ?_⟩
  rw [mk_newp (by omega) b4 h5]
  have b5 := (b4.up (m := n + 1 + 1 + 1 + 1 + 1) (by omega)).cons (a := p) (y := 5) (v := n + 1 + 1 + 1 + 1) (by omega)
  refine bg_26_44 ⟨by omega, ⟨mk_Sr (by omega) h6 hs, by omega⟩, ?_⟩
  rw [mk_newp (by omega) b5 h6]
  have b6 := (b5.up (m := n + 1 + 1 + 1 + 1 + 1 + 1) (by omega)).cons (a := p) (y := 6) (v := n + 1 + 1 + 1 + 1 + 1) (by omega)
  refine bg_26_53 ⟨by omega, ⟨mk_Sr (by omega) h7 hs, by omega⟩, ?_⟩
  rw [mk_newp (by omega) b6 h7]
  refine bg_26_60 ⟨⟨by rw [mk_Sa (by omega)]; exact hs, ha0⟩, ?_⟩
  exact hq
def pl_a : List (Nat × Nat × Nat) := [(10, 5, 11), (11, 1, 13), (11, 0, 12)]
def pl_b : List (Nat × Nat × Nat) := (10, 6, 14) :: mk_f 14 pl_a 4
def pl_c : List (Nat × Nat × Nat) := (10, 0, 54) :: (54, 0, 55) :: (10, 7, 34) :: mk_f 34 pl_b 4
def pl_dt : List (Nat × Nat × Nat) := (56, 3, 54) :: (56, 2, 63) :: (63, 0, 64) :: (56, 1, 62) :: (56, 0, 57) :: (57, 3, 61) :: (57, 2, 60) :: (57, 1, 59) :: (57, 0, 58) :: pl_c
def pl_d : List (Nat × Nat × Nat) := (10, 1, 56) :: pl_dt
def pl_et : List (Nat × Nat × Nat) := (65, 0, 74) :: (74, 0, 54) :: (65, 3, 73) :: (65, 2, 68) :: (68, 3, 72) :: (68, 2, 71) :: (68, 1, 70) :: (68, 0, 69) :: (65, 1, 66) :: (66, 0, 67) :: pl_d
def pl_e2 : List (Nat × Nat × Nat) := (10, 2, 65) :: pl_et
def pl_e : List (Nat × Nat × Nat) := (10, 3, 75) :: pl_e2
def pl_ft : List (Nat × Nat × Nat) := (76, 0, 75) :: (76, 7, 83) :: (76, 6, 82) :: (76, 5, 81) :: (76, 4, 80) :: (76, 3, 79) :: (76, 2, 78) :: (76, 1, 77) :: pl_e
def pl_f : List (Nat × Nat × Nat) := (10, 4, 76) :: pl_ft
def wh_c (x : Int32) : Int32 := if (1 : Int32) < (if x < (8 : Int32) then x else (8 : Int32)) then (if x < (8 : Int32) then x else (8 : Int32)) else (1 : Int32)
/-- the class's ints behind its constructor -/
def pi_1 (I : rl_M) (x1 x2 : Int32) : rl_M := mc_fl (mc_up (mc_fl (mc_up (mc_up (mc_up I 14 2 (wh_c x1)) 14 3 (wh_c x2)) 14 4 0) 16 0 16 0) 15 1 2) 12 0 64 (-1)
theorem cp_0 (hq : Q (.inl none) (pi_1 (mk_I B 10 84) x1 x2, mk_J B' 10 84, mk_P pl_f, mk_S N 84, 84)) : mc_WP (mc_en 0 [.ref 10, .int x1, .int x2] (mk_M B B' 10 N [] 11)) Q := by
  refine bg_0_0 ⟨by decide, mc_inl ?_⟩
  rw [mk_new (by decide) (by unfold mk_b; decide) (show sh_w N 11 = (1, 2) from rfl)]
  refine cp_21 (by decide) (by decide) (by decide) rfl ⟨rfl, rfl⟩ (by unfold mk_b; decide) ?_
  refine bg_0_12 ⟨⟨rfl, by decide⟩, by decide, mc_inl ?_⟩
  rw [mk_Pc, mk_new (by decide) (by unfold mk_b; decide) (show sh_w N 14 = (1, 9) from rfl)]
  refine cp_27 (p := 14) (by decide) (by decide) rfl rfl rfl rfl (fun f hf => ?_) (by unfold mk_b; decide) ?_
  · match f, hf with
    | 0, _ => exact ⟨rfl, rfl, rfl, rfl⟩
    | 1, _ => exact ⟨rfl, rfl, rfl, rfl⟩
    | 2, _ => exact ⟨rfl, rfl, rfl, rfl⟩
    | 3, _ => exact ⟨rfl, rfl, rfl, rfl⟩
  refine bg_0_23 (I := mk_I B 10 34) (J := mk_J B' 10 34) (P := mk_P (mk_f 14 pl_a 4)) (S := mk_S N 34) (n := 34) ⟨⟨rfl, by decide⟩, by decide, mc_inl ?_⟩
  rw [mk_Pc, show ((10, 6, 11 + 1 + 2) :: mk_f 14 pl_a 4) = pl_b from rfl]
  rw [mk_new (by decide) (by unfold mk_b; decide) (show sh_w N 34 = (1, 9) from rfl)]
  refine cp_27 (p := 34) (by decide) (by decide) rfl rfl rfl rfl (fun f hf => ?_) (by unfold mk_b; decide) ?_
  · match f, hf with
    | 0, _ => exact ⟨rfl, rfl, rfl, rfl⟩
    | 1, _ => exact ⟨rfl, rfl, rfl, rfl⟩
    | 2, _ => exact ⟨rfl, rfl, rfl, rfl⟩
    | 3, _ => exact ⟨rfl, rfl, rfl, rfl⟩
  refine bg_0_34 (I := mk_I B 10 54) (J := mk_J B' 10 54) (P := mk_P (mk_f 34 pl_b 4)) (S := mk_S N 54) (n := 54) ⟨⟨rfl, by decide⟩, by decide, mc_inl ?_⟩
  rw [mk_Pc, mk_new (by decide) (by unfold mk_b; decide) (show sh_w N 54 = (1, 1) from rfl)]
  refine cp_20 (p := 54) (n := 55) (by decide) (by decide) (by decide) (by decide) rfl rfl (by unfold mk_b; decide) ?_
  refine bg_0_47 (I := mk_I B 10 56) (J := mk_J B' 10 56) (P := mk_P ((54, 0, 55) :: (10, 7, 34) :: mk_f 34 pl_b 4)) (S := mk_S N 56) (n := 56) ⟨⟨rfl, by decide⟩, by decide, mc_inl ?_⟩
  rw [mk_Pc, show ((10, 0, 54) :: (54, 0, 55) :: (10, 7, 34) :: mk_f 34 pl_b 4) = pl_c from rfl, mk_new (by decide) (by unfold mk_b; decide) (show sh_w N 56 = (1, 5) from rfl)]
  refine cp_23 (p := 56) (n := 57) (by decide) (by decide) (by decide) (by decide) rfl rfl (fun k hk => ?_) rfl rfl rfl (by unfold mk_b; decide) ?_
  · match k, hk with
    | 0, _ => rfl
    | 1, _ => rfl
    | 2, _ => rfl
    | 3, _ => rfl
  refine bg_0_62 (I := mk_I B 10 65) (J := mk_J B' 10 65) (P := mk_P pl_dt) (S := mk_S N 65) (n := 65) ⟨⟨rfl, by decide⟩, by decide, mc_inl ?_⟩
  rw [mk_Pc, show ((10, 1, 56) :: pl_dt) = pl_d from rfl]
  rw [mk_new (l := pl_d) (by decide) (by unfold mk_b; decide) (show sh_w N 65 = (1, 7) from rfl)]
  refine cp_25 (p := 65) (n := 66) (by decide) (by decide) (by decide) (by decide) rfl rfl rfl rfl (fun k hk => ?_) rfl rfl (by unfold mk_b; decide) ?_
  · match k, hk with
    | 0, _ => rfl
    | 1, _ => rfl
    | 2, _ => rfl
    | 3, _ => rfl
  refine bg_0_74 (I := mk_I B 10 75) (J := mk_J B' 10 75) (P := mk_P pl_et) (S := mk_S N 75) (n := 75) ⟨⟨rfl, by decide⟩, by decide, ?_⟩
  rw [mk_Pc, show ((10, 2, 65) :: pl_et) = pl_e2 from rfl, mk_new (by decide) (by unfold mk_b; decide) (show sh_w N 75 = (2, 64) from rfl)]
  refine bg_0_83 (I := mk_I B 10 76) (J := mk_J B' 10 76) (P := mk_P pl_e2) (S := mk_S N 76) (n := 76) ⟨⟨rfl, by decide⟩, by decide, mc_inl ?_⟩
  rw [mk_Pc, show ((10, 3, 75) :: pl_e2) = pl_e from rfl]
  rw [mk_new (l := pl_e) (by decide) (by unfold mk_b; decide) (show sh_w N 76 = (1, 8) from rfl)]
  refine cp_26 (p := 76) (n := 77) (by decide) (by decide) (by decide) (by decide) rfl rfl rfl rfl rfl rfl rfl rfl (by unfold mk_b; decide) ?_
  refine bg_0_99 (I := mk_I B 10 84) (J := mk_J B' 10 84) (P := mk_P pl_ft) (S := mk_S N 84) (n := 84) (a0 := 10) ⟨⟨rfl, by decide⟩, ⟨rfl, by decide⟩, rfl, mc_inl ?_⟩
  refine gg_begin (b := 14) (a := 15) (q := 16) rfl rfl rfl rfl rfl (by decide) (by decide) (by decide) rfl (by decide) ?_
  refine bg_0_130 (P := mk_P pl_f) (S := mk_S N 84) (n := 84) (a0 := 10) ⟨⟨rfl, by decide⟩, rfl, mc_inl ?_⟩
  refine gg_empty (a := 11) (q := 12) rfl rfl rfl (by decide) ?_
  exact bg_0_137 hq
end
