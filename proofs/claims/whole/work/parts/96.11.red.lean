theorem bn_u (x : Int32) (h : x.toBitVec.toNat < 2147483648) : x.toInt = (x.toBitVec.toNat : Int) := by
  have h1 : x.toInt = x.toBitVec.toInt := rfl
  rw [h1, BitVec.toInt_eq_toNat_cond]
  split <;> omega
theorem bn_t (x : Int32) (h : 0 ≤ x.toInt) : x.toInt = (x.toBitVec.toNat : Int) ∧ x.toBitVec.toNat < 2147483648 := by
  have h1 : x.toInt = x.toBitVec.toInt := rfl
  have h2 := BitVec.toInt_eq_toNat_cond x.toBitVec
  have h4 := x.toBitVec.isLt
  split at h2
  · rw [h1, h2]; omega
  · rw [h1] at h; omega
theorem bn_and (x : Int32) (h : 0 ≤ x.toInt) : (x &&& 255).toInt = x.toInt % 256 := by
  have e : (x &&& 255).toBitVec.toNat = x.toBitVec.toNat % 256 := by
    show (x.toBitVec &&& (255 : Int32).toBitVec).toNat = _
    rw [BitVec.toNat_and]
    exact Nat.and_two_pow_sub_one_eq_mod _ 8
  rw [bn_u _ (by rw [e]; omega), e, (bn_t x h).1]
  omega
theorem bn_shr (x s : Int32) (k : Nat) (hs : (s.toBitVec.smod 32).toNat = k) (h : 0 ≤ x.toInt) : (x >>> s).toInt = x.toInt / (2 ^ k : Nat) := by
  obtain ⟨hx, hlt⟩ := bn_t x h
  have e : (x >>> s).toBitVec.toNat = x.toBitVec.toNat / 2 ^ k := by
    have e1 : (x >>> s).toBitVec = x.toBitVec.sshiftRight (s.toBitVec.smod 32).toNat := rfl
    rw [e1, hs, BitVec.toNat_sshiftRight_of_msb_false, Nat.shiftRight_eq_div_pow]
    rw [BitVec.msb_eq_false_iff_two_mul_lt]
    omega
  have hle : x.toBitVec.toNat / 2 ^ k ≤ x.toBitVec.toNat := Nat.div_le_self _ _
  rw [bn_u _ (by rw [e]; omega), e, hx]
  exact Int.natCast_ediv _ _
theorem pt_0 {c : Int32} (h : 0 ≤ c.toInt ∧ c.toInt < 16777216) : (pt_v c (Int32.ofNat 0)).toInt = c.toInt / 65536 ∧ (pt_v c (Int32.ofNat 1)).toInt = c.toInt / 256 % 256 ∧ (pt_v c (Int32.ofNat 2)).toInt = c.toInt % 256 := by
  have s16 := bn_shr c 16 16 (by decide) h.1
  have s8 := bn_shr c 8 8 (by decide) h.1
  have s0 := bn_shr c 0 0 (by decide) h.1
  rw [show (2 ^ 16 : Nat) = 65536 from rfl] at s16
  rw [show (2 ^ 8 : Nat) = 256 from rfl] at s8
  rw [show (2 ^ 0 : Nat) = 1 from rfl] at s0
  refine ⟨?_, ?_, ?_⟩
  · show ((c >>> 16) &&& 255).toInt = _
    rw [bn_and _ (by omega), s16]
    omega
  · show ((c >>> 8) &&& 255).toInt = _
    rw [bn_and _ (by omega), s8]
    omega
  · show ((c >>> 0) &&& 255).toInt = _
    rw [bn_and _ (by omega), s0]
    omega
theorem ws_pos {l : List rd_T} (h : rd_G l) (h2 : 2 ≤ l.length) : 0 < ws_l l := by
  have hge := ws_ge l
  refine Int.not_le.mp fun q => ?_
  obtain ⟨hn, hc, hp, -⟩ := h
  match l, hn, hc, hp, h2, q, hge with
  | a :: b :: l, hn, hc, hp, h2, q, hge =>
    have ha := hc a List.mem_cons_self
    have hb := hc b (List.mem_cons_of_mem _ List.mem_cons_self)
    have hab := (List.pairwise_cons.mp hp).1 b List.mem_cons_self
    have eq : ∀ p, sr_l p (a :: b :: l) ≤ 0 → pt_I p a = pt_I p b := fun p hle => by
      have a1 := mx_le (p := p) (l := a :: b :: l) (a := a) List.mem_cons_self
      have a2 := mn_le (p := p) (l := a :: b :: l) (a := a) List.mem_cons_self
      have b1 := mx_le (p := p) (l := a :: b :: l) (a := b) (List.mem_cons_of_mem _ List.mem_cons_self)
      have b2 := mn_le (p := p) (l := a :: b :: l) (a := b) (List.mem_cons_of_mem _ List.mem_cons_self)
      unfold sr_l at hle
      omega
    have e0 := eq 0 (by omega)
    have e1 := eq 1 (by omega)
    have e2 := eq 2 (by omega)
    unfold pt_I at e0 e1 e2
    obtain ⟨a0, a1, a2⟩ := pt_0 ha.1
    obtain ⟨b0, b1, b2⟩ := pt_0 hb.1
    refine hab (Int32.toInt_inj.mp ?_)
    omega
theorem ws_one {l : List rd_T} (h : rd_G l) (h2 : l.length < 2) : ws_l l = 0 := by
  match l, h, h2 with
  | [], h, _ => exact absurd rfl h.1
  | [a], h, _ =>
    have : ∀ p, sr_l p [a] = 0 := fun p => by
      have := pt_Ib p a
      show max (pt_I p a) (-1) - min (pt_I p a) 256 = 0
      omega
    exact this _
