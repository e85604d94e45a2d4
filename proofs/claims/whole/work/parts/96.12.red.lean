/-! reduce: means -/
section
variable {I M M' : rl_M} {J : Nat → Nat → Int64} {r N n : Nat} {Q : mc_Q} {L l s : List rd_T} {c v x u : Int32} {m p b d nb k i w st : Nat} {bx : Nat → List rd_T}
def me_s (c q : Int32) : Int32 := (c <<< ((8 : Int32) &&& 31)) ||| q
def me_f (p : Nat) (a : rd_T) : Int32 := a.2 * pt_v a.1 (Int32.ofNat p)
def me_q (p : Nat) (l : List rd_T) : Int32 := sm_l (me_f p) l / sm_l Prod.snd l
def me_c (l : List rd_T) : Nat → Int32
  | 0 => 0
  | p + 1 => me_s (me_c l p) (me_q p l)
def me_v (l : List rd_T) : Int32 := me_c l 3
theorem me_perm {l m : List rd_T} (h : l.Perm m) : ∀ p, me_c l p = me_c m p
  | 0 => rfl
  | p + 1 => by unfold me_c me_q; rw [me_perm h p, sm_perm h, sm_perm h]
theorem bn_cat (c q : Int32) (hc : 0 ≤ c.toInt ∧ c.toInt < 65536) (hq : 0 ≤ q.toInt ∧ q.toInt < 256) : (me_s c q).toInt = c.toInt * 256 + q.toInt := by
  obtain ⟨c1, c2⟩ := bn_t c hc.1
  obtain ⟨q1, q2⟩ := bn_t q hq.1
  have e : (me_s c q).toBitVec.toNat = c.toBitVec.toNat * 256 + q.toBitVec.toNat := by
    have e0 : (me_s c q).toBitVec = (c.toBitVec <<< 8) ||| q.toBitVec := rfl
    rw [e0, BitVec.toNat_or, BitVec.toNat_shiftLeft]
    have e1 : c.toBitVec.toNat <<< 8 = c.toBitVec.toNat * 256 := Nat.shiftLeft_eq _ _
    rw [Nat.mod_eq_of_lt (by rw [e1]; omega), ← Nat.shiftLeft_add_eq_or_of_lt (by omega : q.toBitVec.toNat < 2 ^ 8), e1]
  rw [bn_u _ (by rw [e]; omega), e]
  omega
theorem bn_msk (c : Int32) (hc : 0 ≤ c.toInt ∧ c.toInt < 16777216) : c &&& Int32.ofNat 16777215 = c := by
  obtain ⟨c1, c2⟩ := bn_t c hc.1
  have e : (c &&& Int32.ofNat 16777215).toBitVec.toNat = c.toBitVec.toNat := by
    show (c.toBitVec &&& (Int32.ofNat 16777215).toBitVec).toNat = _
    rw [BitVec.toNat_and]
    have : (Int32.ofNat 16777215).toBitVec.toNat = 2 ^ 24 - 1 := rfl
    rw [this, Nat.and_two_pow_sub_one_eq_mod, Nat.mod_eq_of_lt]
    omega
  rw [← Int32.toInt_inj, bn_u _ (by rw [e]; exact c2), e, c1]
theorem me_sum : ∀ {l : List rd_T}, (∀ a ∈ l, 1 ≤ a.2.toInt) → sm_I l ≤ 64 → 0 ≤ (sm_l (me_f p) l).toInt ∧ (sm_l (me_f p) l).toInt ≤ 255 * sm_I l
  | [], _, _ => ⟨Int.le_refl _, Int.le_refl _⟩
  | a :: l, h, hs => by
    have h1 := h a List.mem_cons_self
    have h0 := sm_I0 (l := l) (fun b hb => h b (List.mem_cons_of_mem _ hb))
    have hs' : a.2.toInt + sm_I l ≤ 64 := hs
    have ih := me_sum (l := l) (fun b hb => h b (List.mem_cons_of_mem _ hb)) (by omega)
    have hp := pt_b a.1 (Int32.ofNat p)
    have m1 : a.2.toInt * (pt_v a.1 (Int32.ofNat p)).toInt ≤ a.2.toInt * 255 := Int.mul_le_mul_of_nonneg_left hp.2 (by omega)
    have m0 : 0 ≤ a.2.toInt * (pt_v a.1 (Int32.ofNat p)).toInt := Int.mul_nonneg (by omega) hp.1
    have em : (me_f p a).toInt = a.2.toInt * (pt_v a.1 (Int32.ofNat p)).toInt := by
      unfold me_f
      rw [Int32.toInt_mul, Int.bmod_def]
      omega
    show 0 ≤ (me_f p a + sm_l (me_f p) l).toInt ∧ (me_f p a + sm_l (me_f p) l).toInt ≤ 255 * (a.2.toInt + sm_I l)
    rw [Int32.toInt_add, em, Int.bmod_def]
    omega
theorem me_qb (h : rd_G l) (p : Nat) : 0 ≤ (me_q p l).toInt ∧ (me_q p l).toInt < 256 := by
  have h1 := me_sum (p := p) (fun a ha => (h.2.1 a ha).2) h.2.2.2
  have h2 := sm_t (fun a ha => (h.2.1 a ha).2) h.2.2.2
  have hpos : 1 ≤ l.length := by
    have := h.1
    cases l with
    | nil => exact absurd rfl this
    | cons a l => exact Nat.succ_le_succ (Nat.zero_le _)
  have hle := h.2.2.2
  unfold me_q
  have hd : (sm_l (me_f p) l / sm_l Prod.snd l).toInt = (sm_l (me_f p) l).toInt / sm_I l := by
    rw [Int32.toInt_div, h2.1, Int.tdiv_eq_ediv_of_nonneg h1.1]
    have g1 : 0 ≤ (sm_l (me_f p) l).toInt / sm_I l := Int.ediv_nonneg h1.1 (by omega)
    have g2 : (sm_l (me_f p) l).toInt / sm_I l ≤ (sm_l (me_f p) l).toInt := Int.ediv_le_self _ h1.1
    rw [Int.bmod_def]
    omega
  rw [hd]
  refine ⟨Int.ediv_nonneg h1.1 (by omega), ?_⟩
  exact Int.ediv_lt_of_lt_mul (by omega) (by omega)
theorem me_b (h : rd_G l) : 0 ≤ (me_v l).toInt ∧ (me_v l).toInt < 16777216 := by
  have q0 := me_qb h 0
  have q1 := me_qb h 1
  have q2 := me_qb h 2
  have e0 := bn_cat 0 (me_q 0 l) (by rw [i3_0]; omega) q0
  have e1 := bn_cat (me_s 0 (me_q 0 l)) (me_q 1 l) (by rw [e0, i3_0]; omega) q1
  have e2 := bn_cat (me_s (me_s 0 (me_q 0 l)) (me_q 1 l)) (me_q 2 l) (by rw [e1, e0, i3_0]; omega) q2
  have e : me_v l = me_s (me_s (me_s 0 (me_q 0 l)) (me_q 1 l)) (me_q 2 l) := rfl
  rw [e, e2, e1, e0, i3_0]
  omega
theorem me_px (h : rd_G l) : ¬ sm_l Prod.snd l = 0 ∧ (if (1 : Int32) < sm_l Prod.snd l then sm_l Prod.snd l else 1) = sm_l Prod.snd l := by
  have h2 := sm_t (fun a ha => (h.2.1 a ha).2) h.2.2.2
  have hpos : 1 ≤ l.length := by
    have := h.1
    cases l with
    | nil => exact absurd rfl this
    | cons a l => exact Nat.succ_le_succ (Nat.zero_le _)
  refine ⟨fun q => by rw [q, i3_0] at h2; omega, ?_⟩
  split
  · rfl
  · rename_i q
    rw [Int32.lt_iff_toInt_lt, i3_1] at q
    rw [← Int32.toInt_inj, i3_1]
    omega
theorem cc_mean (hb : b < 16) (hB : bx_at M b st m) (hG : rd_G (sg_l M st m)) (hk : Q (.inl (some (.int (me_v (sg_l M st m))))) (M, J, rf_w r, sh_w N, n)) :
    mc_WP (mc_en 181 [.ref 76, .int (Int32.ofNat b)] (M, J, rf_w r, sh_w N, n)) Q := by
  have hB' := hB
  obtain ⟨h1, h2, h3, h4⟩ := hB
  have hv : vp_in (Int32.ofNat b) 16 := on_vp (by omega) hb
  obtain ⟨px0, px1⟩ := me_px hG
  refine bk_181_0 (mc_inl ?_)
  refine cc_pixels hb hB' (bk_181_6 ?_)
  rw [px1]
  refine lp_go (C := fun p (i : Value × Value) => (181, 15, [.ref 76, .int (Int32.ofNat b), .int (sm_l Prod.snd (sg_l M st m)), .int (me_c (sg_l M st m) p), .int (Int32.ofNat p), i.1, i.2], [], (M, J, rf_w r, sh_w N, n), (0, 0))) (P := fun _ _ => True) 3 (.null, .null) trivial ?_ ?_
  · intro p hp ⟨z1, z2⟩ _ next
    dsimp only at next ⊢
    refine bk_181_15 ⟨fun q => absurd ((on_le (k := 3) (by omega) (by omega)).mp q) (by omega), fun _ => ⟨hv, ?_⟩⟩
    rw [on_n (by omega), h1]
    refine lp_go (C := fun j (_ : Unit) => (181, 32, [.ref 76, .int (Int32.ofNat b), .int (sm_l Prod.snd (sg_l M st m)), .int (me_c (sg_l M st m) p), .int (Int32.ofNat p), .int (sm_l (me_f p) (sg_l M st j)), .int (Int32.ofNat (st + j))], [], (M, J, rf_w r, sh_w N, n), (0, 0))) (P := fun _ _ => True) m () trivial ?_ ?_
    · intro j hj _ _ nx0
      have nx := nx0 () trivial
      rw [sg_s, sm_snoc] at nx
      refine bk_181_32 ⟨hv, ?_⟩
      rw [on_n (k := b) (by omega), h2, on_n (by omega), on_1 (k := st + j)]
      exact ⟨fun q => absurd ((on_le (by omega) (by omega)).mp q) (by omega), fun _ => ⟨on_vp (by omega) (by omega), on_vp (by omega) (by omega), nx⟩⟩
    · intro _ _
      refine bk_181_32 ⟨hv, ?_⟩
      rw [on_n (k := b) (by omega), h2, on_1 (k := p)]
      exact ⟨fun _ => ⟨px0, next (_, _) trivial⟩, fun q => absurd ((on_le (by omega) (by omega)).mpr (Nat.le_refl _)) q⟩
  · intro ⟨z1, z2⟩ _
    exact bk_181_15 ⟨fun _ => hk, fun q => absurd (show (3 : Int32) ≤ Int32.ofNat 3 by decide) q⟩
theorem cm_mean (hd : M 84 28 = Int32.ofNat d) (h64 : d ≤ 64) (hG : rd_G (fl_l M d v)) (hk : Q (.inl (some (.int (me_v (fl_l M d v))))) (M, J, rf_w r, sh_w N, n)) :
    mc_WP (mc_en 117 [.ref 84, .int v] (M, J, rf_w r, sh_w N, n)) Q := by
  obtain ⟨px0, -⟩ := me_px hG
  refine bk_117_0 ?_
  refine lp_go (C := fun p (i : Value × Value × Value) => (117, 4, [.ref 84, .int v, .int (me_c (fl_l M d v) p), .int (Int32.ofNat p), i.1, i.2.1, i.2.2], [], (M, J, rf_w r, sh_w N, n), (0, 0))) (P := fun _ _ => True) 3 (.null, .null, .null) trivial ?_ ?_
  · intro p hp ⟨z1, z2, z3⟩ _ next
    dsimp only at next ⊢
    refine bk_117_4 ⟨fun q => absurd ((on_le (k := 3) (by omega) (by omega)).mp q) (by omega), fun _ => ?_⟩
    refine lp_go (C := fun j (_ : Unit) => (117, 18, [.ref 84, .int v, .int (me_c (fl_l M d v) p), .int (Int32.ofNat p), .int (sm_l (me_f p) (fl_l M j v)), .int (sm_l Prod.snd (fl_l M j v)), .int (Int32.ofNat j)], [], (M, J, rf_w r, sh_w N, n), (0, 0))) (P := fun _ _ => True) d () trivial ?_ ?_
    · intro j hj _ _ nx0
      have nx := nx0 () trivial
      have hvj : vp_in (Int32.ofNat j) 64 := on_vp (by omega) (by omega)
      refine bk_117_18 ?_
      rw [hd, on_n (k := j) (by omega), on_1 (k := j), pt_m (pn_3 hp)]
      refine ⟨fun q => absurd ((on_le (by omega) (by omega)).mp q) (by omega), fun _ => ⟨hvj, fun q => ⟨hvj, fun _ => ?_, fun q2 => absurd q q2⟩, fun q => ⟨hvj, hvj, hvj, fun q2 => absurd q2 q, fun _ => ⟨hvj, ?_⟩⟩⟩⟩
      · rw [fl_s0 q] at nx; exact nx
      · rw [fl_s1 (Classical.not_not.mp q), sm_snoc, sm_snoc] at nx; exact nx
    · intro _ _
      refine bk_117_18 ?_
      rw [hd, on_1 (k := p)]
      exact ⟨fun _ => ⟨px0, next (_, _, _) trivial⟩, fun q => absurd ((on_le (by omega) (by omega)).mpr (Nat.le_refl _)) q⟩
  · intro ⟨z1, z2, z3⟩ _
    exact bk_117_4 ⟨fun _ => hk, fun q => absurd (show (3 : Int32) ≤ Int32.ofNat 3 by decide) q⟩
end
