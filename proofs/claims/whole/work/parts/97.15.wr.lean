/-! write: a frame's bytes: the class -/
section
variable {I M M' : rl_M} {J : Nat → Nat → Int64} {r N n : Nat} {Q : mc_Q} {dsp dly clr x y w h wv : Int32} {a1 b k m eb W H : Nat} {cs : Nat → Int32} {L P : List Int32}
def ff_s (dsp dly clr : Int32) (L : List Int32) : List Int32 := L ++ [33] ++ [dsp + (if clr = -1 then 0 else 16)] ++ [dly] ++ [if clr = -1 then 0 else clr]
def cn_b (b : Nat) : Nat := if b = 0 then 0 else 2 ^ b
def fo_b (b : Nat) : Int32 := if b = 0 then 0 else 2 + 4 * (Int32.ofNat b - 1)
def ff_h (x y w h wv : Int32) (b : Nat) (cs : Nat → Int32) (L : List Int32) : List Int32 := L ++ [44] ++ [x] ++ [y] ++ [w] ++ [h] ++ [wv + fo_b b] ++ pl_l cs (cn_b b)
noncomputable def ff_D (m : Nat) (P : List Int32) : List Int32 := fl_s (wr_f (2 ^ m) P.length (lz_0 (2 ^ m)) P (pk_b ([], 0, 0) (2 ^ m) (gw (2 ^ m) (lz_0 (2 ^ m)))))
noncomputable def ff_d (m : Nat) (P L : List Int32) : List Int32 := bs_o (bs_f (L ++ [Int32.ofNat m]) (ff_D m P)) ++ [0]
theorem ffs_len : (ff_s dsp dly clr L).length = L.length + 4 := by unfold ff_s; simp
theorem cn_16 (hb : b ≤ 4) : cn_b b ≤ 16 := by
  rcases (show b = 0 ∨ b = 1 ∨ b = 2 ∨ b = 3 ∨ b = 4 by omega) with rfl | rfl | rfl | rfl | rfl <;> decide
theorem ffh_len : (ff_h x y w h wv b cs L).length = L.length + 6 + 3 * cn_b b := by unfold ff_h; simp [pl_len]; omega
theorem p2_16 (hm : m ≤ 4) : 2 ^ m ≤ 16 := Nat.pow_le_pow_right (n := 2) (i := m) (j := 4) (by decide) hm
theorem ffd_bits (hm : m ≤ 4) (hl : P.length ≤ 64) (hv : vl_p (2 ^ m) P) : bt_n (wr_f (2 ^ m) P.length (lz_0 (2 ^ m)) P (pk_b ([], 0, 0) (2 ^ m) (gw (2 ^ m) (lz_0 (2 ^ m))))) ≤ 402 := by
  have h16 := p2_16 hm
  have hw := gw_6 (fr := 2 ^ m) (Z := lz_0 (2 ^ m))
  have b0 := bt_b (gw (2 ^ m) (lz_0 (2 ^ m))) (2 ^ m) ([], 0, 0)
  have e0 : bt_n ([], 0, 0) = 0 := rfl
  exact wr_len h16 _ _ _ _ 0 0 (l0_ok h16) l0_at hv (by omega) (Nat.le_refl _) (by omega) (by show 2 ^ m + 2 + 46 * 0 ≤ 18 + 0; omega)
theorem ffD_len (hm : m ≤ 4) (hl : P.length ≤ 64) (hv : vl_p (2 ^ m) P) : (ff_D m P).length ≤ 51 := by
  have h1 := ffd_bits hm hl hv
  unfold ff_D fl_s
  unfold bt_n at h1
  split
  · omega
  · rw [List.length_append, List.length_singleton]; omega
theorem ffd_len (hm : m ≤ 4) (hl : P.length ≤ 64) (hv : vl_p (2 ^ m) P) : (ff_d m P L).length ≤ L.length + 105 := by
  have h1 := ffD_len hm hl hv
  have := bs_olen (ff_D m P) (L ++ [Int32.ofNat m]) [] (by decide)
  have e : (bs_o (bs_f (L ++ [Int32.ofNat m]) (ff_D m P))).length ≤ (L ++ [Int32.ofNat m]).length + 0 + 1 + 2 * (ff_D m P).length := this
  unfold ff_d
  rw [List.length_append, List.length_singleton] at *
  omega
theorem F_lt (hF : is_F a1) : a1 < 54 ∧ 10 ≤ a1 ∧ a1 + 3 < 54 := by simp only [is_F, List.mem_cons, List.not_mem_nil, or_false] at hF; omega
theorem cc_sett (hF : is_F a1) (ho : oc_is M L) (hl : L.length ≤ 700) (e6 : M a1 6 = dsp) (e7 : M a1 7 = dly) (e8 : M a1 8 = clr)
    (hk : ∀ M', oc_K M M' → oc_is M' (ff_s dsp dly clr L) → Q (.inl none) (M', J, rf_w r, sh_w N, n)) : mc_WP (mc_en 146 [.ref 56, .ref a1] (M, J, rf_w r, sh_w N, n)) Q := by
  have ha := F_lt hF
  have rest : ∀ (c : Int32) (M1 : rl_M), (c = 0 ↔ clr = -1) → oc_K M M1 → oc_is M1 (L ++ [33]) → mc_WP (146, 23, [.ref 56, .ref a1, .int c], [], (M1, J, rf_w r, sh_w N, n), (0, 0)) Q := fun c M1 hc k1 o1 => by
    have en : ∀ M2, oc_K M M2 → M2 a1 = M a1 := fun M2 k2 => k2.1 a1 (by omega) (by omega)
    unfold ff_s at hk
    refine bk_146_23 hF ?_
    rw [en M1 k1, e6]
    refine ⟨fun q => mc_inl ?_, fun q => mc_inl ?_⟩
    · rw [if_pos (hc.mp q), if_pos (hc.mp q)] at hk
      refine cc_put o1 (by simp; omega) fun M2 k2 o2 => bk_146_45 hF (mc_inl ?_)
      have k12 := k1.tr k2
      rw [en M2 k12, e7]
      refine cc_put o2 (by simp; omega) fun M3 k3 o3 => bk_146_56 hF ⟨fun _ => mc_inl ?_, fun z => absurd q z⟩
      exact cc_put o3 (by simp; omega) fun M4 k4 o4 => bk_146_75 hF (hk M4 ((k12.tr k3).tr k4) o4)
    · have q' : ¬ clr = -1 := fun z => q (hc.mpr z)
      rw [if_neg q', if_neg q'] at hk
      refine cc_put o1 (by simp; omega) fun M2 k2 o2 => bk_146_45 hF (mc_inl ?_)
      have k12 := k1.tr k2
      rw [en M2 k12, e7]
      refine cc_put o2 (by simp; omega) fun M3 k3 o3 => bk_146_56 hF ⟨fun z => absurd z q, fun _ => mc_inl ?_⟩
      rw [en M3 (k12.tr k3), e8]
      exact cc_put o3 (by simp; omega) fun M4 k4 o4 => bk_146_75 hF (hk M4 ((k12.tr k3).tr k4) o4)
  refine bk_146_0 hF ?_
  rw [e8]
  exact ⟨fun q => mc_inl (cc_put ho (by omega) fun M1 k1 o1 => rest 0 M1 ⟨fun _ => q, fun _ => rfl⟩ k1 o1), fun q => mc_inl (cc_put ho (by omega) fun M1 k1 o1 => rest 1 M1 ⟨fun z => absurd z (by decide), fun z => absurd z q⟩ k1 o1)⟩
theorem pb_2 (h1 : 1 ≤ b) (hb : b ≤ 4) : pb_v (2 ^ b) = b := by
  rcases (show b = 1 ∨ b = 2 ∨ b = 3 ∨ b = 4 by omega) with rfl | rfl | rfl | rfl <;> rfl
theorem fo_1 (h1 : 1 ≤ b) (hb : b ≤ 4) : (2 : Int32) + ((Int32.ofNat b - 1) <<< ((2 : Int32) &&& 31)) = fo_b b := by
  rcases (show b = 1 ∨ b = 2 ∨ b = 3 ∨ b = 4 by omega) with rfl | rfl | rfl | rfl <;> decide
theorem cc_head (hF : is_F a1) (ho : oc_is M L) (hl : L.length ≤ 700) (e2 : M a1 2 = x) (e3 : M a1 3 = y) (e4 : M a1 4 = w) (e5 : M a1 5 = h) (e9 : M a1 9 = wv) (h9 : wv = 0 ∨ wv = 1) (hb : b ≤ 4) (hc : M (a1 + 2) 1 = Int32.ofNat (cn_b b)) (hcs : ∀ j, j < cn_b b → M (a1 + 2 + 1) j = cs j)
    (hk : ∀ M', oc_K M M' → oc_is M' (ff_h x y w h wv b cs L) → Q (.inl none) (M', J, rf_w r, sh_w N, n)) : mc_WP (mc_en 147 [.ref 56, .ref a1] (M, J, rf_w r, sh_w N, n)) Q := by
  have ha := F_lt hF
  have h16 := cn_16 hb
  have en : ∀ M2, oc_K M M2 → M2 a1 = M a1 := fun M2 k2 => k2.1 a1 (by omega) (by omega)
  have rest : ∀ (c : Int32) (M1 : rl_M), c = wv + fo_b b → oc_K M M1 → oc_is M1 (L ++ [44]) → mc_WP (147, 51, [.ref 56, .ref a1, .int c], [], (M1, J, rf_w r, sh_w N, n), (0, 0)) Q := fun c M1 hcw k1 o1 => by
    unfold ff_h at hk
    rw [← hcw] at hk
    refine bk_147_51 hF (mc_inl ?_)
    rw [en M1 k1, e2]
    refine cc_put o1 (by simp; omega) fun M2 k2 o2 => bk_147_62 hF (mc_inl ?_)
    have k12 := k1.tr k2
    rw [en M2 k12, e3]
    refine cc_put o2 (by simp; omega) fun M3 k3 o3 => bk_147_73 hF (mc_inl ?_)
    have k13 := k12.tr k3
    rw [en M3 k13, e4]
    refine cc_put o3 (by simp; omega) fun M4 k4 o4 => bk_147_84 hF (mc_inl ?_)
    have k14 := k13.tr k4
    rw [en M4 k14, e5]
    refine cc_put o4 (by simp; omega) fun M5 k5 o5 => bk_147_95 hF (mc_inl ?_)
    have k15 := k14.tr k5
    refine cc_put o5 (by simp; omega) fun M6 k6 o6 => bk_147_103 hF (mc_inl ?_)
    have k16 := k15.tr k6
    refine cc_pal (wd_F (r := r) (N := N) hF).2.2.2.2.2 o6 (by rw [k16.1 (a1 + 2) (by omega) (by omega)]; exact hc) h16 (by simp; omega) fun M7 k7 o7 => bk_147_111 hF (hk M7 (k16.tr k7) ?_)
    rw [k16.1 (a1 + 2 + 1) (by omega) (by omega), pl_eq (cn_b b) hcs] at o7
    exact o7
  have pos : ∀ c0 : Int32, c0 = wv → ((Int32.ofNat (cn_b b) ≤ 0 → (∃ R : mc_Q, mc_WP (mc_en 126 [.ref 54, .int (44 : Int32)] (M, J, rf_w r, sh_w N, n)) R ∧ (∀ v t, R (.inl v) t → mc_WP (147, 51, [.ref 56, .ref a1, .int c0], v.toList ++ [], t, (0, 0)) Q) ∧ (∀ k t, R (.inr k) t → Q (.inr k) t))) ∧
      (¬ (Int32.ofNat (cn_b b) ≤ 0) → (∃ R : mc_Q, mc_WP (mc_en 55 [.int (Int32.ofNat (cn_b b))] (M, J, rf_w r, sh_w N, n)) R ∧ (∀ v t, R (.inl v) t → mc_WP (147, 35, [.ref 56, .ref a1, .int c0], v.toList ++ [.int (2 : Int32), .int c0], t, (0, 0)) Q) ∧ (∀ k t, R (.inr k) t → Q (.inr k) t)))) := fun c0 hc0 => by
    refine ⟨fun q => mc_inl ?_, fun q => mc_inl ?_⟩
    · have hb0 : b = 0 := by
        have := (on_le (m := 0) (by omega) (by omega)).mp q
        unfold cn_b at this
        split at this
        · assumption
        · have := Nat.two_pow_pos b; omega
      refine cc_put ho (by omega) fun M1 k1 o1 => rest c0 M1 ?_ k1 o1
      rw [hc0, hb0]; exact (Int32.add_zero wv).symm
    · have hb0 : 1 ≤ b := by
        refine Nat.one_le_iff_ne_zero.mpr fun z => q ?_
        rw [z]; decide
      have e : cn_b b = 2 ^ b := if_neg (by omega)
      rw [e] at h16 ⊢
      refine cc_pbits h16 ?_
      rw [pb_2 hb0 hb]
      refine bk_147_35 hF (mc_inl ?_)
      rw [fo_1 hb0 hb, hc0]
      exact cc_put ho (by omega) fun M1 k1 o1 => rest _ M1 rfl k1 o1
  refine bk_147_0 hF ?_
  rw [e9, hc]
  rcases h9 with z | z
  · exact ⟨fun _ => pos 0 z.symm, fun q => absurd z q⟩
  · exact ⟨fun q => absurd (z.symm.trans q) (by decide), fun _ => pos 1 z.symm⟩
def cw_K (M M' : rl_M) : Prop := ∀ b, (b < 54 ∨ 65 ≤ b) → M' b = M b
theorem cw_K.tr {M2 : rl_M} (h : cw_K M M') (h2 : cw_K M' M2) : cw_K M M2 := fun b q => (h2 b q).trans (h b q)
theorem cw_oc (h : oc_K M M') : cw_K M M' := fun b q => h.1 b (by omega) (by omega)
theorem mx_2 (hb : b ≤ 4) : (if (2 : Int32) < Int32.ofNat b then Int32.ofNat b else 2) = Int32.ofNat (max 2 b) := by
  rcases (show b = 0 ∨ b = 1 ∨ b = 2 ∨ b = 3 ∨ b = 4 by omega) with rfl | rfl | rfl | rfl | rfl <;> decide
/-- the pixels in their order -/
def fp_l (W H : Nat) (wv : Int32) (ps : Nat → Int32) : List Int32 := (pw_l W (rw_l wv H)).map ps
theorem fp_len (h9 : wv = 0 ∨ wv = 1) (hH : H ≤ 8) : (fp_l W H wv cs).length = H * W := by
  unfold fp_l
  rw [List.length_map, pw_len, (rwo_ok hH h9).1]
theorem fp_v (h9 : wv = 0 ∨ wv = 1) (hH : H ≤ 8) (hv : ∀ y z, y < H → z < W → ∃ j, j < k ∧ cs (8 * y + z) = Int32.ofNat j) : vl_p k (fp_l W H wv cs) := by
  intro a ha
  unfold fp_l at ha
  obtain ⟨q, hq, e⟩ := List.mem_map.mp ha
  obtain ⟨y, z, y1, z1, e2⟩ := pw_mem hq
  obtain ⟨j, j1, j2⟩ := hv y z ((rwo_ok hH h9).2 y y1) z1
  exact ⟨j, j1, by rw [← e, e2, j2]⟩
theorem cc_fd (hF : is_F a1) (ho : oc_is M L) (hl : L.length ≤ 650) (he : 1 ≤ eb ∧ eb ≤ 4) (e4 : M a1 4 = Int32.ofNat W) (e5 : M a1 5 = Int32.ofNat H) (hW : W ≤ 8) (hH : H ≤ 8) (e9 : M a1 9 = wv) (h9 : wv = 0 ∨ wv = 1) (hK : ∀ a, 2 ≤ a → a ≤ 4 → M a = st_w a)
    (hv : ∀ y z, y < H → z < W → ∃ j, j < 2 ^ eb ∧ M (a1 + 1) (8 * y + z) = Int32.ofNat j)
    (hk : ∀ M', cw_K M M' → oc_is M' (ff_d (max 2 eb) (fp_l W H wv (M (a1 + 1))) L) → Q (.inl none) (M', J, rf_w r, sh_w N, n)) : mc_WP (mc_en 148 [.ref 56, .ref a1, .int (Int32.ofNat (2 ^ eb))] (M, J, rf_w r, sh_w N, n)) Q := by
  have ha := F_lt hF
  have h16 := p2_16 he.2
  have hm4 : max 2 eb ≤ 4 := by omega
  have hm16 := p2_16 hm4
  have hme : 2 ^ eb ≤ 2 ^ max 2 eb := Nat.pow_le_pow_right (by decide) (by omega)
  have hlen := fp_len (W := W) (cs := M (a1 + 1)) h9 hH
  have hmul : H * W ≤ 64 := Nat.le_trans (Nat.mul_le_mul hH hW) (by decide)
  have hvp : vl_p (2 ^ max 2 eb) (fp_l W H wv (M (a1 + 1))) := fp_v h9 hH fun y z hy hz => by
    obtain ⟨j, j1, j2⟩ := hv y z hy hz
    exact ⟨j, by omega, j2⟩
  have hbits := ffd_bits (m := max 2 eb) hm4 (by omega) hvp
  have hDl := ffD_len (m := max 2 eb) hm4 (by omega) hvp
  refine bk_148_0 hF (mc_inl (cc_pbits h16 ?_))
  rw [pb_2 he.1 he.2]
  refine bk_148_5 hF ?_
  rw [mx_2 he.2, ho.1, on_n (by omega), on_1]
  refine ⟨fun q => absurd ((on_le (by omega) (by omega)).mp q) (by omega), fun _ => ⟨on_vp (by omega) (by omega), mc_inl ?_⟩⟩
  generalize hM0 : mc_up (mc_up (mc_up (mc_up (mc_up M 55 L.length (Int32.ofNat (max 2 eb))) 54 1 (Int32.ofNat (L.length + 1))) 63 1 0) 56 4 0) 56 5 0 = M0
  have k0 : ∀ b, ¬ b = 54 → ¬ b = 55 → ¬ b = 63 → ¬ b = 56 → M0 b = M b := fun b q1 q2 q3 q4 => by rw [← hM0, up_ne q4, up_ne q4, up_ne q3, up_ne q1, up_ne q2]
  have o0 : oc_is M0 (L ++ [Int32.ofNat (max 2 eb)]) := by
    refine ⟨?_, ob_app ho.2 (fun k hk' => ?_) ?_⟩
    · rw [← hM0, up_ne (by decide), up_ne (by decide), up_ne (by decide), up_at, List.length_append]; rfl
    · rw [← hM0, up_ne (by decide), up_ne (by decide), up_ne (by decide), up_ne (by decide), up_nk (by omega)]
    · rw [← hM0, up_ne (by decide), up_ne (by decide), up_ne (by decide), up_ne (by decide), up_at]
  have s0 : pc_is M0 ([], 0, 0) := by
    refine ⟨?_, fun k a q => absurd q (by simp), ?_, ?_⟩
    · rw [← hM0, up_ne (by decide), up_ne (by decide), up_at]; rfl
    · rw [← hM0, up_nk (by decide), up_at]; rfl
    · rw [← hM0, up_at]; rfl
  have cgo : ∀ M1 : rl_M, M1 54 = M0 54 → M1 55 = M0 55 → oc_is M1 (L ++ [Int32.ofNat (max 2 eb)]) := fun M1 q1 q2 => by unfold oc_is; rw [q1, q2]; exact o0
  refine cc_begin2 (by decide) hm4 rfl fun M1 k1 d1 => ?_
  have b1 : ∀ b, b < 54 → M1 b = M b := fun b q => by rw [k1 b (by omega), k0 b (by omega) (by omega) (by omega) (by omega)]
  have s1 : pc_is M1 ([], 0, 0) := pc_cg s0 (k1 _ (by decide)) (k1 _ (by decide)) (k1 _ (by decide))
  refine bk_148_43 hF (mc_inl ?_)
  have e9' : M1 a1 9 = wv := by rw [b1 a1 (by omega)]; exact e9
  refine cc_order hF (by rw [b1 a1 (by omega)]; exact e4) (by rw [b1 a1 (by omega)]; exact e5) hW hH (by rw [e9']; exact h9) (fun a q1 q2 => by rw [b1 a (by omega)]; exact hK a q1 q2) fun M2 k2 a2 => ?_
  rw [e9'] at a2 ⊢
  have hP2 : M2 (a1 + 1) = M (a1 + 1) := by rw [k2 _ (by omega), b1 _ (by omega)]
  have plen : (pw_l W (rw_l wv H)).length = (fp_l W H wv (M (a1 + 1))).length := by unfold fp_l; rw [List.length_map]
  have px : px_c M2 (a1 + 1) 64 (fp_l W H wv (M (a1 + 1))) := by
    refine ⟨fun k a hka => ?_, fun k hkl => ?_⟩
    · unfold fp_l at hka
      rw [List.getElem?_map] at hka
      obtain ⟨q, hq, e⟩ := Option.map_eq_some_iff.mp hka
      obtain ⟨yy, zz, y1, z1, e2⟩ := pw_mem (List.mem_of_getElem? hq)
      have := (rwo_ok hH h9).2 yy y1
      rw [a2 k q hq, hP2, on_n (by omega)]
      exact e
    · rw [← plen] at hkl
      have hq := List.getElem?_eq_getElem hkl
      obtain ⟨yy, zz, y1, z1, e2⟩ := pw_mem (List.mem_of_getElem? hq)
      have := (rwo_ok hH h9).2 yy y1
      rw [a2 k _ hq]
      exact on_vp (by omega) (by omega)
  have d2 : cd_is M2 57 (2 ^ max 2 eb) (lz_0 (2 ^ max 2 eb)) := cd_cg d1 (k2 _ (by decide)) (k2 _ (by decide)) (k2 _ (by decide)) (k2 _ (by decide)) (k2 _ (by decide))
  have s2 : pc_is M2 ([], 0, 0) := pc_cg s1 (k2 _ (by decide)) (k2 _ (by decide)) (k2 _ (by decide))
  have hsh := (wd_F (r := r) (N := N) hF).2.2.2.1
  rw [plen]
  refine bk_148_56 hF hsh (mc_inl ?_)
  refine cc_codes hm16 d2 s2 hsh (by omega) px hvp (by omega) fun M3 k3 s3 => ?_
  have o3 : oc_is M3 (L ++ [Int32.ofNat (max 2 eb)]) := cgo M3 (by rw [k3 _ (by omega), k2 _ (by decide), k1 _ (by decide)]) (by rw [k3 _ (by omega), k2 _ (by decide), k1 _ (by decide)])
  have w3 : cw_K M M3 := fun b q => by
    rw [k3 b (by omega), k2 b (by omega), k1 b (by omega), k0 b (by omega) (by omega) (by omega) (by omega)]
  unfold ff_d ff_D at hk
  unfold ff_D at hDl
  generalize wr_f (2 ^ max 2 eb) (fp_l W H wv (M (a1 + 1))).length (lz_0 (2 ^ max 2 eb)) (fp_l W H wv (M (a1 + 1))) (pk_b ([], 0, 0) (2 ^ max 2 eb) (gw (2 ^ max 2 eb) (lz_0 (2 ^ max 2 eb)))) = S at *
  obtain ⟨D, v, c⟩ := S
  obtain ⟨s31, s32, s33, s34⟩ := s3
  have hb' : 8 * D.length + c ≤ 402 := hbits
  dsimp only at s31 s32 s33 s34
  have fin : ∀ (M4 : rl_M) (D' : List Int32), fl_s (D, v, c) = D' → M4 63 1 = Int32.ofNat D'.length → (∀ k a, D'[k]? = some a → M4 64 k = a) → cw_K M3 M4 → M4 54 = M3 54 → M4 55 = M3 55 → mc_WP (mc_en 153 [.ref 56] (M4, J, rf_w r, sh_w N, n)) (mc_kr (fun v t => mc_WP (148, 81, [.ref 56, .ref a1, .int (Int32.ofNat (2 ^ eb)), .int (Int32.ofNat (max 2 eb))], v.toList ++ [], t, (0, 0)) Q) fun k t => Q (.inr k) t) := fun M4 D' hD h1 h2 k4 q1 q2 => by
    rw [hD] at hk hDl
    refine cc_blocks (L := L ++ [Int32.ofNat (max 2 eb)]) h1 h2 (by omega) (fun M5 L' k5 o5 hL' => ?_) (by unfold oc_is; rw [q1, q2]; exact o3) (by rw [List.length_append, List.length_singleton]; omega)
    refine bk_148_81 hF (hk M5 ((w3.tr k4).tr (cw_oc k5)) ?_)
    have e0 : (if D' = [] then L ++ [Int32.ofNat (max 2 eb)] else bs_o (bs_f (L ++ [Int32.ofNat (max 2 eb)]) D')) = bs_o (bs_f (L ++ [Int32.ofNat (max 2 eb)]) D') := by
      split
      · rename_i q; rw [q]; rfl
      · rfl
    rw [e0] at hL'
    rw [← hL']
    exact o5
  refine bk_148_59 hF ?_
  rw [s34, s31, s33, on_n (by omega), on_1]
  refine ⟨fun q => mc_inl (fin M3 D ?_ s31 s32 (fun _ _ => rfl) rfl rfl), fun q => ⟨fun z => absurd ((on_le (k := 64) (by omega) (by omega)).mp z) (by omega), fun _ => ⟨on_vp (by omega) (by omega), mc_inl (fin _ (D ++ [Int32.ofNat v]) ?_ ?_ (ob_app s32 (fun k hk' => ?_) ?_) (fun b q => ?_) ?_ ?_)⟩⟩⟩
  · have := (on_le (m := 0) (by omega) (by omega)).mp q
    exact if_pos (show c = 0 by omega)
  · exact if_neg (fun z : c = 0 => q ((on_le (m := 0) (by omega) (by omega)).mpr (by omega)))
  · rw [up_at, List.length_append]; rfl
  · rw [up_ne (by decide), up_nk (by omega)]
  · rw [up_ne (by decide), up_at]
  · rw [up_ne (by omega), up_ne (by omega)]
  · rw [up_ne (by decide), up_ne (by decide)]
  · rw [up_ne (by decide), up_ne (by decide)]
end
