/-! stretches filled with one value -/
def mc_fl (I : rl_M) (a lo n : Nat) (v : Int32) : rl_M := fun b j => if b = a ∧ lo ≤ j ∧ j < lo + n then v else I b j
section
variable {I : rl_M} {J : Nat → Nat → Int64} {r N n : Nat} {Q : mc_Q} {v x1 x2 x3 x4 : Int32} {a b lo m j k z : Nat}
theorem fl_0 : mc_fl I a lo 0 v = I := by
  funext b j
  unfold mc_fl
  rw [if_neg (by omega)]
theorem fl_c : mc_fl (mc_up I a lo v) a (lo + 1) m v = mc_fl I a lo (m + 1) v := by
  funext b j
  unfold mc_fl mc_up
  by_cases h : b = a ∧ lo ≤ j ∧ j < lo + (m + 1)
  · rw [if_pos h]
    by_cases h2 : b = a ∧ lo + 1 ≤ j ∧ j < lo + 1 + m
    · rw [if_pos h2]
    · rw [if_neg h2, if_pos ⟨h.1, by omega⟩]
  · rw [if_neg h, if_neg (fun q => h ⟨q.1, by omega⟩), if_neg (fun q => h ⟨q.1, by omega⟩)]
theorem fl_ne (h : ¬ b = a) : mc_fl I a lo m v b = I b := by
  funext j
  unfold mc_fl
  rw [if_neg (fun q => h q.1)]
theorem fl_in (h : lo ≤ j ∧ j < lo + m) : mc_fl I a lo m v a j = v := by
  unfold mc_fl
  rw [if_pos ⟨rfl, h⟩]
theorem fl_out (h : ¬ (lo ≤ j ∧ j < lo + m)) : mc_fl I a lo m v b j = I b j := by
  unfold mc_fl
  rw [if_neg (fun q => h q.2)]
theorem on_1 : Int32.ofNat k + 1 = Int32.ofNat (k + 1) := by rw [Int32.ofNat_add]; rfl
theorem on_t (h : k < 2147483648) : (Int32.ofNat k).toInt = k := Int32.toInt_ofNat_of_lt h
theorem on_n (h : k < 2147483648) : (Int32.ofNat k).toNatClampNeg = k := Int32.toNatClampNeg_ofNat_of_lt h
theorem on_of (h : 0 ≤ v.toInt) : v = Int32.ofNat v.toNatClampNeg := by
  have h1 := Int32.toInt_lt v
  have h2 := i3_tn v
  rw [← Int32.toInt_inj, on_t (by omega)]
  omega
/-- Arrays.fill -/
theorem fi_lp (hs : sh_w N a = (2, z)) (ha : 10 ≤ a) (hz : z ≤ 1000) : ∀ (m lo : Nat) (I : rl_M), lo + m = z → Q (.inl none) (mc_fl I a lo m v, J, rf_w r, sh_w N, n) → mc_WP (205, 5, [.ref a, .int v, .int (Int32.ofNat lo), .int (Int32.ofNat z)], [], (I, J, rf_w r, sh_w N, n), (0, 0)) Q
  | 0, lo, I, h, hq => by
    rw [fl_0] at hq
    exact bk_205_5 hs ha ⟨fun _ => hq, fun q => absurd (by rw [Int32.le_iff_toInt_le, on_t (by omega), on_t (by omega)]; omega) q⟩
  | m + 1, lo, I, h, hq => by
    refine bk_205_5 hs ha ⟨fun q => absurd q (by rw [Int32.le_iff_toInt_le, on_t (by omega), on_t (by omega)]; omega), fun _ => ⟨by rw [vp_iff, on_t (by omega)]; omega, ?_⟩⟩
    rw [on_1, on_n (by omega)]
    exact fi_lp hs ha hz m (lo + 1) _ (by omega) (by rw [fl_c]; exact hq)
theorem cc_fill (hs : sh_w N a = (2, z)) (ha : 10 ≤ a) (hz : z ≤ 1000) (h : Q (.inl none) (mc_fl I a 0 z v, J, rf_w r, sh_w N, n)) : mc_WP (mc_en 205 [.ref a, .int v] (I, J, rf_w r, sh_w N, n)) Q := by
  refine bk_205_0 hs ?_
  rw [hs]
  exact fi_lp hs ha hz z 0 I (by omega) h
/-- Palette.resize -/
theorem rz_lp (hp : is_P a) : ∀ (m lo : Nat) (I : rl_M), lo + m = 16 → Q (.inl none) (mc_up (mc_fl I (a + 1) lo m 0) a 1 x1, J, rf_w r, sh_w N, n) → mc_WP (156, 9, [.ref a, .int x1, .int (Int32.ofNat lo)], [], (I, J, rf_w r, sh_w N, n), (0, 0)) Q
  | 0, lo, I, h, hq => by
    rw [fl_0] at hq
    exact bk_156_9 hp ⟨fun _ => hq, fun q => absurd (by rw [Int32.le_iff_toInt_le, on_t (by omega), i3_16]; omega) q⟩
  | m + 1, lo, I, h, hq => by
    refine bk_156_9 hp ⟨fun q => absurd q (by rw [Int32.le_iff_toInt_le, on_t (by omega), i3_16]; omega), fun _ => ⟨by rw [vp_iff, on_t (by omega)]; omega, ?_⟩⟩
    rw [on_1, on_n (by omega)]
    exact rz_lp hp m (lo + 1) _ (by omega) (by rw [fl_c]; exact hq)
def rz_s (w c : Int32) : Nat := if w.toInt < c.toInt then w.toNatClampNeg else c.toNatClampNeg
theorem cc_resize (hp : is_P a) (hw : 0 ≤ x1.toInt ∧ x1.toInt ≤ 16) (hc : 0 ≤ (I a 1).toInt ∧ (I a 1).toInt ≤ 16) (h : Q (.inl none) (mc_up (mc_fl I (a + 1) (rz_s x1 (I a 1)) (16 - rz_s x1 (I a 1)) 0) a 1 x1, J, rf_w r, sh_w N, n)) : mc_WP (mc_en 156 [.ref a, .int x1] (I, J, rf_w r, sh_w N, n)) Q := by
  refine bk_156_0 hp ?_
  have e : (if x1 < I a 1 then x1 else I a 1) = Int32.ofNat (rz_s x1 (I a 1)) := by
    unfold rz_s
    by_cases q : x1 < I a 1
    · rw [if_pos q, if_pos (Int32.lt_iff_toInt_lt.mp q)]; exact on_of hw.1
    · rw [if_neg q, if_neg (fun z => q (Int32.lt_iff_toInt_lt.mpr z))]; exact on_of hc.1
  have hs : rz_s x1 (I a 1) ≤ 16 := by
    unfold rz_s
    have t1 := i3_tn x1
    have t2 := i3_tn (I a 1)
    split <;> omega
  rw [e]
  exact rz_lp hp _ _ I (by omega) h
/-- Frame.begin -/
def fb_8 (I : rl_M) (a : Nat) (x1 x2 x3 x4 : Int32) : rl_M := mc_up (mc_up (mc_up (mc_up (mc_up (mc_up (mc_up (mc_up I a 2 x1) a 3 x2) a 4 x3) a 5 x4) a 6 0) a 7 0) a 8 (-1)) a 9 0
def fb_M (I : rl_M) (a : Nat) (x1 x2 x3 x4 : Int32) : rl_M := mc_fl (mc_up (mc_fl (fb_8 I a x1 x2 x3 x4) (a + 2 + 1) 0 16 0) (a + 2) 1 0) (a + 1) 0 64 0
theorem fb_8ne (h : ¬ b = a) : fb_8 I a x1 x2 x3 x4 b = I b := by
  unfold fb_8
  rw [up_ne h, up_ne h, up_ne h, up_ne h, up_ne h, up_ne h, up_ne h, up_ne h]
theorem fb_ne (h : ¬ b = a) (h1 : ¬ b = a + 1) (h2 : ¬ b = a + 2) (h3 : ¬ b = a + 2 + 1) : fb_M I a x1 x2 x3 x4 b = I b := by
  unfold fb_M
  rw [fl_ne h1, up_ne h2, fl_ne h3, fb_8ne h]
theorem fb_a : fb_M I a x1 x2 x3 x4 a = fb_8 I a x1 x2 x3 x4 a := by
  unfold fb_M
  rw [fl_ne (by omega), up_ne (by omega), fl_ne (by omega)]
theorem fb_v : fb_8 I a x1 x2 x3 x4 a 2 = x1 ∧ fb_8 I a x1 x2 x3 x4 a 3 = x2 ∧ fb_8 I a x1 x2 x3 x4 a 4 = x3 ∧ fb_8 I a x1 x2 x3 x4 a 5 = x4 ∧ fb_8 I a x1 x2 x3 x4 a 6 = 0 ∧ fb_8 I a x1 x2 x3 x4 a 7 = 0 ∧ fb_8 I a x1 x2 x3 x4 a 8 = -1 ∧ fb_8 I a x1 x2 x3 x4 a 9 = 0 := by
  refine ⟨?_, ?_, ?_, ?_, ?_, ?_, ?_, ?_⟩ <;> simp [fb_8, mc_up]
theorem fb_1 (h : k < 64) : fb_M I a x1 x2 x3 x4 (a + 1) k = 0 := by
  unfold fb_M
  exact fl_in ⟨Nat.zero_le _, by omega⟩
theorem fb_2 : fb_M I a x1 x2 x3 x4 (a + 2) 1 = 0 := by
  unfold fb_M
  rw [fl_ne (by omega), up_at]
theorem fb_3 (h : k < 16) : fb_M I a x1 x2 x3 x4 (a + 2 + 1) k = 0 := by
  unfold fb_M
  rw [fl_ne (by omega), up_ne (by omega)]
  exact fl_in ⟨Nat.zero_le _, by omega⟩
theorem cc_begin (hF : is_F a) (hK : 0 ≤ (I (a + 2) 1).toInt ∧ (I (a + 2) 1).toInt ≤ 16) (h : Q (.inl none) (fb_M I a x1 x2 x3 x4, J, rf_w r, sh_w N, n)) : mc_WP (mc_en 140 [.ref a, .int x1, .int x2, .int x3, .int x4] (I, J, rf_w r, sh_w N, n)) Q := by
  have hw := wd_F (r := r) (N := N) hF
  have e8 : fb_8 I a x1 x2 x3 x4 (a + 2) = I (a + 2) := fb_8ne (by omega)
  refine bk_140_0 hF (mc_inl ?_)
  refine cc_resize hw.2.2.2.2.2 (by decide) (by rw [show (mc_up (mc_up (mc_up (mc_up (mc_up (mc_up (mc_up (mc_up I a 2 x1) a 3 x2) a 4 x3) a 5 x4) a 6 0) a 7 0) a 8 (-1)) a 9 0) = fb_8 I a x1 x2 x3 x4 from rfl, e8]; exact hK) ?_
  have e0 : rz_s 0 ((mc_up (mc_up (mc_up (mc_up (mc_up (mc_up (mc_up (mc_up I a 2 x1) a 3 x2) a 4 x3) a 5 x4) a 6 0) a 7 0) a 8 (-1)) a 9 0) (a + 2) 1) = 0 := by
    rw [show (mc_up (mc_up (mc_up (mc_up (mc_up (mc_up (mc_up (mc_up I a 2 x1) a 3 x2) a 4 x3) a 5 x4) a 6 0) a 7 0) a 8 (-1)) a 9 0) = fb_8 I a x1 x2 x3 x4 from rfl, e8]
    unfold rz_s
    rw [i3_0]
    split
    · rfl
    · rw [i3_tn]; omega
  rw [e0]
  refine bk_140_49 hF (mc_inl ?_)
  refine cc_fill hw.2.2.2.1 (wd_tF hF 1) (by decide) ?_
  exact bk_140_57 hF h
end
