/-! read: the strings that codes bring: pure -/
section
variable {B : rd_B} {fr a b c e k t w z n tot code i : Nat} {Z : lz_Z} {x : Int32} {st st' : rd_S} {D : List Nat} {P l : List Int32} {A F C G A' F' C' G' : Nat → Int32}
def wk_ok (fr : Nat) (Z : lz_Z) : Prop := (fr + 2 ≤ Z.1 ∧ Z.1 ≤ 64) ∧ (∀ c, c < fr → Z.2.2.1 c = [Int32.ofNat c]) ∧ ∀ e, fr + 2 ≤ e → e < Z.1 → (Z.2.2.2 e < fr ∨ (fr + 2 ≤ Z.2.2.2 e ∧ Z.2.2.2 e < e)) ∧ ∃ a, Z.2.2.1 e = Z.2.2.1 (Z.2.2.2 e) ++ [a]
def wk_at (fr : Nat) (Z : lz_Z) : Prop := (Z.2.1 = -1 ∧ Z.1 = fr + 2) ∨ ∃ b, va_c fr Z b ∧ Z.2.1 = Int32.ofNat b
abbrev al_c (fr : Nat) (Z : lz_Z) (c : Nat) : Prop := c < fr ∨ (fr + 2 ≤ c ∧ c < Z.1) ∨ (c = Z.1 ∧ ¬ Z.2.1 = -1 ∧ Z.1 ≤ 63)
def fs_c (Z : lz_Z) (c : Nat) : Int32 := (if c < Z.1 then Z.2.2.1 c else Z.2.2.1 Z.2.1.toNatClampNeg).headD 0
theorem wk_lt (h : wk_ok fr Z) (hf : fr ≤ 16) (hc : va_c fr Z c) : c < 64 := by
  have := h.1
  rcases hc with q | q <;> omega
theorem wk_st (h : wk_ok fr Z) (h1 : fr + 2 ≤ e) (h2 : e < Z.1) : va_c fr Z (Z.2.2.2 e) ∧ Z.2.2.2 e < e := by
  rcases (h.2.2 e h1 h2).1 with q | q
  · exact ⟨Or.inl q, by omega⟩
  · exact ⟨Or.inr ⟨q.1, by omega⟩, q.2⟩
theorem wk_ll (h : wk_ok fr Z) (h1 : fr + 2 ≤ e) (h2 : e < Z.1) : (Z.2.2.1 e).length = (Z.2.2.1 (Z.2.2.2 e)).length + 1 := by
  obtain ⟨a, ha⟩ := (h.2.2 e h1 h2).2
  rw [ha, List.length_append, List.length_singleton]
theorem wk_len (h : wk_ok fr Z) : ∀ m c, c < m → va_c fr Z c → 1 ≤ (Z.2.2.1 c).length ∧ (Z.2.2.1 c).length ≤ m
  | 0, c, hm, _ => absurd hm (by omega)
  | m + 1, c, hm, hc => by
    rcases hc with q | q
    · rw [h.2.1 c q]; simp
    · obtain ⟨v1, v2⟩ := wk_st h q.1 q.2
      have := wk_ll h q.1 q.2
      have := wk_len h m _ (by omega) v1
      omega
theorem wk_64 (h : wk_ok fr Z) (hf : fr ≤ 16) (hc : va_c fr Z c) : 1 ≤ (Z.2.2.1 c).length ∧ (Z.2.2.1 c).length ≤ 64 := wk_len h 64 c (wk_lt h hf hc) hc
theorem wk_0 (hf : fr ≤ 16) : wk_ok fr (lz_0 fr) := ⟨(l0_ok hf).1, (l0_ok hf).2.1, (l0_ok hf).2.2.1⟩
theorem wk_nw (hf : fr ≤ 16) (h : wk_ok fr Z) (ha : wk_at fr Z) : wk_ok fr (lz_nw Z x) := by
  by_cases q : Z.2.1 = -1 ∨ 63 < Z.1
  · rw [nw_old q]; exact h
  · rw [nw_new q]
    have q2 := fun z => q (Or.inr z)
    rcases ha with z | ⟨b, b1, b2⟩
    · exact absurd (Or.inl z.1) q
    · have hb64 := wk_lt h hf b1
      obtain ⟨g1, g2, g3⟩ := h
      have hbn : Z.2.1.toNatClampNeg = b := by rw [b2, on_n (by omega)]
      have hbx : b < Z.1 := by rcases b1 with z | z <;> omega
      rw [hbn]
      refine ⟨⟨by show fr + 2 ≤ Z.1 + 1; omega, by show Z.1 + 1 ≤ 64; omega⟩, fun c hc => ?_, fun e e1 e2 => ?_⟩
      · show (if c = Z.1 then _ else _) = _
        rw [if_neg (by omega)]; exact g2 c hc
      · have e2' : e < Z.1 + 1 := e2
        show ((if e = Z.1 then b else Z.2.2.2 e) < fr ∨ (fr + 2 ≤ (if e = Z.1 then b else Z.2.2.2 e) ∧ (if e = Z.1 then b else Z.2.2.2 e) < e)) ∧ ∃ a, (if e = Z.1 then Z.2.2.1 b ++ [x] else Z.2.2.1 e) = (if (if e = Z.1 then b else Z.2.2.2 e) = Z.1 then Z.2.2.1 b ++ [x] else Z.2.2.1 (if e = Z.1 then b else Z.2.2.2 e)) ++ [a]
        by_cases z : e = Z.1
        · rw [if_pos z, if_pos z, if_neg (show ¬ b = Z.1 by omega)]
          refine ⟨?_, x, rfl⟩
          rcases b1 with y | y
          · exact Or.inl y
          · exact Or.inr ⟨y.1, by omega⟩
        · rw [if_neg z, if_neg z]
          obtain ⟨w1, w2⟩ := g3 e e1 (by omega)
          have : ¬ Z.2.2.2 e = Z.1 := fun y => by rcases w1 with t | t <;> omega
          rw [if_neg this]
          exact ⟨w1, w2⟩
theorem wk_rf (hf : fr ≤ 16) (h : wk_ok fr Z) : wk_ok fr (lz_rf fr Z) := ⟨⟨Nat.le_refl _, by show fr + 2 ≤ 64; omega⟩, h.2.1, fun e e1 e2 => absurd e2 (by show ¬ e < fr + 2; omega)⟩
theorem al_va (hf : fr ≤ 16) (h : wk_ok fr Z) (ha : al_c fr Z c) : va_c fr (lz_nw Z x) c := by
  by_cases q : Z.2.1 = -1 ∨ 63 < Z.1
  · rw [nw_old q]
    rcases ha with z | z | z
    · exact Or.inl z
    · exact Or.inr z
    · rcases q with q | q
      · exact absurd q z.2.1
      · omega
  · rw [nw_new q]
    rcases ha with z | z | z
    · exact Or.inl z
    · exact Or.inr ⟨z.1, by show c < Z.1 + 1; omega⟩
    · exact Or.inr ⟨by rw [z.1]; exact h.1.1, by show c < Z.1 + 1; omega⟩
/-- the tables with the new entry -/
theorem tb_nww (hb64 : b < 64) (ht : tb_is fr Z A F C G) (hb : va_c fr Z b) (hbf : Z.2.1 = Int32.ofNat b) (hn : Z.1 ≤ 63)
    (hA : ∀ k, A' k = if k = Z.1 then Int32.ofNat b else A k) (hB : ∀ k, F' k = if k = Z.1 then F b else F k) (hC : ∀ k, C' k = if k = Z.1 then x else C k) (hD : ∀ k, G' k = if k = Z.1 then G b + 1 else G k) : tb_is fr (lz_nw Z x) A' F' C' G' := by
  have q : ¬ (Z.2.1 = -1 ∨ 63 < Z.1) := fun q => by
    rcases q with q | q
    · rw [hbf] at q; exact on_m1 (by omega) q
    · omega
  have hbn : Z.2.1.toNatClampNeg = b := by rw [hbf, on_n (by omega)]
  rw [nw_new q, hbn]
  obtain ⟨t1, t2⟩ := ht
  refine ⟨fun c hc => ?_, fun e e1 e2 => ?_⟩
  · show (if c = Z.1 then Z.2.2.1 b ++ [x] else Z.2.2.1 c).head? = some (F' c) ∧ (if c = Z.1 then Z.2.2.1 b ++ [x] else Z.2.2.1 c).getLast? = some (C' c) ∧ G' c = Int32.ofNat (if c = Z.1 then Z.2.2.1 b ++ [x] else Z.2.2.1 c).length
    rw [hB, hC, hD]
    by_cases z : c = Z.1
    · rw [if_pos z, if_pos z, if_pos z, if_pos z]
      obtain ⟨s1, s2, s3⟩ := t1 b hb
      refine ⟨?_, ?_, ?_⟩
      · rw [List.head?_append, s1]; rfl
      · rw [List.getLast?_append]; rfl
      · rw [s3, on_1, List.length_append]; rfl
    · rw [if_neg z, if_neg z, if_neg z, if_neg z]
      refine t1 c ?_
      rcases hc with y | y
      · exact Or.inl y
      · have y2 : c < Z.1 + 1 := y.2
        exact Or.inr ⟨y.1, by omega⟩
  · have e2' : e < Z.1 + 1 := e2
    show A' e = Int32.ofNat (if e = Z.1 then b else Z.2.2.2 e)
    rw [hA]
    by_cases z : e = Z.1
    · rw [if_pos z, if_pos z]
    · rw [if_neg z, if_neg z]; exact t2 e e1 (by omega)
/-- one step back in a string -/
theorem tb_back (h : wk_ok fr Z) (ht : tb_is fr Z A F C G) (hc : va_c fr Z e) (hs : Z.2.2.1 e = l.take (k + 1)) (hk : k + 1 ≤ l.length) : l[k]? = some (C e) ∧ (1 ≤ k → ∃ e', va_c fr Z e' ∧ A e = Int32.ofNat e' ∧ Z.2.2.1 e' = l.take k) := by
  have hkl : k < l.length := by omega
  have hel : (Z.2.2.1 e).length = k + 1 := by rw [hs, List.length_take]; omega
  refine ⟨?_, fun h1 => ?_⟩
  · have hlast := (ht.1 e hc).2.1
    rw [hs, List.getLast?_take, if_neg (by omega), show k + 1 - 1 = k from rfl, List.getElem?_eq_getElem hkl] at hlast
    rw [List.getElem?_eq_getElem hkl, ← Option.some.inj hlast]
  · rcases hc with w | w
    · rw [h.2.1 e w] at hel
      simp at hel
      omega
    · obtain ⟨v1, v2⟩ := wk_st h w.1 w.2
      obtain ⟨a, ha⟩ := (h.2.2 e w.1 w.2).2
      refine ⟨_, v1, ht.2 e w.1 w.2, ?_⟩
      have hl2 := wk_ll h w.1 w.2
      have : (Z.2.2.1 e).take k = Z.2.2.1 (Z.2.2.2 e) := by
        rw [ha, List.take_append_of_le_length (by omega), List.take_of_length_le (by omega)]
      rw [← this, hs, List.take_take]
      congr 1
      omega
/-- the pixels that a stretch of codes brings -/
def dr_f (B : rd_B) (fr tot : Nat) : Nat → rd_S → lz_Z → List Int32 → Option (rd_c × List Int32)
  | 0, _, _, _ => none
  | t + 1, st, Z, P => match tc_f B (gw fr Z) st with
    | none => none
    | some (code, s1) => if code = fr + 1 then (if P.length = tot then some (s1.1, P) else none) else if code = fr then dr_f B fr tot t s1 (lz_rf fr Z) P
      else if al_c fr Z code then (if P.length + ((lz_nw Z (fs_c Z code)).2.2.1 code).length ≤ tot then dr_f B fr tot t s1 (lz_bf (lz_nw Z (fs_c Z code)) code) (P ++ (lz_nw Z (fs_c Z code)).2.2.1 code) else none) else none
theorem dr_n (h : tc_f B (gw fr Z) st = none) : dr_f B fr tot (t + 1) st Z P = none := by unfold dr_f; rw [h]
theorem dr_e (h : tc_f B (gw fr Z) st = some (fr + 1, st')) : dr_f B fr tot (t + 1) st Z P = if P.length = tot then some (st'.1, P) else none := by unfold dr_f; rw [h]; exact if_pos rfl
theorem dr_r (h : tc_f B (gw fr Z) st = some (fr, st')) : dr_f B fr tot (t + 1) st Z P = dr_f B fr tot t st' (lz_rf fr Z) P := by
  conv => lhs; unfold dr_f
  rw [h]
  show (if fr = fr + 1 then _ else if fr = fr then _ else _) = _
  rw [if_neg (by omega), if_pos rfl]
theorem dr_x (h : tc_f B (gw fr Z) st = some (code, st')) (h1 : ¬ code = fr + 1) (h2 : ¬ code = fr) (h3 : ¬ al_c fr Z code) : dr_f B fr tot (t + 1) st Z P = none := by
  conv => lhs; unfold dr_f
  rw [h]
  show (if code = fr + 1 then _ else if code = fr then _ else if al_c fr Z code then _ else _) = _
  rw [if_neg h1, if_neg h2, if_neg h3]
theorem dr_c (h : tc_f B (gw fr Z) st = some (code, st')) (h1 : ¬ code = fr + 1) (h2 : ¬ code = fr) (h3 : al_c fr Z code) : dr_f B fr tot (t + 1) st Z P = if P.length + ((lz_nw Z (fs_c Z code)).2.2.1 code).length ≤ tot then dr_f B fr tot t st' (lz_bf (lz_nw Z (fs_c Z code)) code) (P ++ (lz_nw Z (fs_c Z code)).2.2.1 code) else none := by
  conv => lhs; unfold dr_f
  rw [h]
  show (if code = fr + 1 then _ else if code = fr then _ else if al_c fr Z code then _ else _) = _
  rw [if_neg h1, if_neg h2, if_pos h3]
/-- the pixels of a frame, and where the bytes go on -/
noncomputable def pd_f (B : rd_B) (fr tot a : Nat) : Option (List Int32 × Nat) := match tc_f B (gw fr (lz_0 fr)) ((a, 0), 0, 0) with
  | none => none
  | some (code, s1) => if code = fr then (match dr_f B fr tot 7000 s1 (lz_0 fr) [] with
    | none => none
    | some (c, P) => if c.1 + c.2 < B.1 ∧ B.2 (c.1 + c.2) = 0 then some (P, c.1 + c.2 + 1) else none) else none
/-- the bits taken from the data against the stream -/
def bs_D (B : rd_B) (D : List Nat) (ls z b : Nat) (st : rd_S) : Prop := st.2.2 = 8 * ((b + 7) / 8) - b ∧ at_D B D ls z ((b + 7) / 8) st.1 ∧ st.2.1 = (if b % 8 = 0 then 0 else (D[b / 8]?.getD 0) / 2 ^ (b % 8)) ∧ b ≤ 8 * D.length
theorem bsD_0 {ls : Nat} {c : rd_c} (h : at_D B D ls z 0 c) : bs_D B D ls z 0 (c, 0, 0) := ⟨rfl, h, rfl, Nat.zero_le _⟩
theorem p2_8 (hk : k ≤ 8) : 2 ^ k * 2 ^ (8 - k) = 256 := by rw [← Nat.pow_add, show k + (8 - k) = 8 by omega]
theorem bsD_v {ls : Nat} (hD : ∀ y ∈ D, y < 256) (h : bs_D B D ls z b st) : st.2.1 < 2 ^ st.2.2 ∧ st.2.2 < 8 := by
  obtain ⟨h1, h2, h3, h4⟩ := h
  refine ⟨?_, by omega⟩
  rw [h3]
  split
  · exact Nat.two_pow_pos _
  · rename_i q
    rw [show st.2.2 = 8 - b % 8 by omega, Nat.div_lt_iff_lt_mul (Nat.two_pow_pos _), Nat.mul_comm, p2_8 (by omega)]
    cases hq : D[b / 8]? with
    | none => exact (by decide : 0 < 256)
    | some y => exact hD y (List.mem_of_getElem? hq)
theorem bsD_1 (hB : B.1 ≤ 800) {ls : Nat} (hD : ∀ y ∈ D, y < 256) (h : bs_D B D ls z b st) : (t1_f B st = none ∧ D.length ≤ b / 8) ∨ ∃ y st', b / 8 < D.length ∧ D[b / 8]? = some y ∧ t1_f B st = some (y / 2 ^ (b % 8) % 2, st') ∧ bs_D B D ls z (b + 1) st' := by
  have hv := bsD_v hD h
  obtain ⟨c, v, k⟩ := st
  obtain ⟨h1, h2, h3, h4⟩ := h
  dsimp only at h1 h2 h3 hv
  unfold t1_f
  dsimp only
  by_cases q : b % 8 = 0
  · rw [if_pos (show k = 0 by omega)]
    rw [show (b + 7) / 8 = b / 8 by omega] at h2
    rcases atD_step hB h2 with ⟨e1, e2⟩ | ⟨y, c', e1, e2, e3⟩
    · left
      rw [e1]
      exact ⟨rfl, by omega⟩
    · right
      have hlt := (List.getElem?_eq_some_iff.mp e2).1
      refine ⟨y, (c', y / 2, 7), hlt, e2, ?_, ?_, ?_, ?_, by omega⟩
      · rw [e1, q, Nat.pow_zero, Nat.div_one]; rfl
      · show 7 = _; omega
      · rw [show (b + 1 + 7) / 8 = b / 8 + 1 by omega]; exact e3
      · show y / 2 = _
        rw [if_neg (by omega), show (b + 1) / 8 = b / 8 by omega, e2, show (b + 1) % 8 = 1 by omega]; rfl
  · rw [if_neg (show ¬ k = 0 by omega)]
    rw [if_neg q] at h3
    have hn : (b + 7) / 8 ≤ D.length := by obtain ⟨_, _, _, _, hn, _⟩ := h2; exact hn
    have hlt : b / 8 < D.length := by omega
    have he := List.getElem?_eq_getElem hlt
    right
    rw [he] at h3
    refine ⟨_, (c, v / 2, k - 1), hlt, he, ?_, ?_, ?_, ?_, by omega⟩
    · rw [h3]; rfl
    · show k - 1 = _; omega
    · rw [show (b + 1 + 7) / 8 = (b + 7) / 8 by omega]; exact h2
    · show v / 2 = _
      by_cases q2 : (b + 1) % 8 = 0
      · rw [if_pos q2]
        have : k = 1 := by omega
        rw [this] at hv
        have := hv.1
        rw [Nat.pow_one] at this
        omega
      · rw [if_neg q2, show (b + 1) / 8 = b / 8 by omega, he, show (b + 1) % 8 = b % 8 + 1 by omega, h3, Nat.pow_succ, ← Nat.div_div_eq_div_mul]
/-- how many bits there may be yet -/
def mu_f (B : rd_B) (st : rd_S) : Nat := 8 * (B.1 - st.1.1) + st.2.2
theorem nb_at {y : Nat} {c c' : rd_c} (h : nb_f B c = some (y, c')) : c.1 < B.1 ∧ c.1 < c'.1 ∧ c'.1 ≤ B.1 := by
  unfold nb_f at h
  split at h
  · split at h
    · rename_i q
      obtain ⟨_, e⟩ := Prod.mk.inj (Option.some.inj h)
      rw [← e]
      exact ⟨by omega, by show c.1 < c.1 + 2; omega, by show c.1 + 2 ≤ B.1; omega⟩
    · cases h
  · split at h
    · obtain ⟨_, e⟩ := Prod.mk.inj (Option.some.inj h)
      rw [← e]
      exact ⟨by omega, by show c.1 < c.1 + 1; omega, by show c.1 + 1 ≤ B.1; omega⟩
    · cases h
theorem tc_mu (hw : 1 ≤ w) (hw8 : w ≤ 8) (h : tc_f B w st = some (code, st')) : mu_f B st' + w ≤ mu_f B st ∧ code < 2 ^ w := by
  unfold tc_f at h
  split at h
  · obtain ⟨e0, e⟩ := Prod.mk.inj (Option.some.inj h)
    rw [← e, ← e0]
    refine ⟨?_, Nat.mod_lt _ (Nat.two_pow_pos w)⟩
    unfold mu_f
    dsimp only
    omega
  · cases hn : nb_f B st.1 with
    | none => rw [hn] at h; cases h
    | some p =>
      obtain ⟨y, c'⟩ := p
      rw [hn] at h
      obtain ⟨e0, e⟩ := Prod.mk.inj (Option.some.inj h)
      have := nb_at hn
      rw [← e, ← e0]
      refine ⟨?_, Nat.mod_lt _ (Nat.two_pow_pos w)⟩
      unfold mu_f
      dsimp only
      omega
theorem gw_3 (hf : 4 ≤ fr) (hf2 : fr ≤ 16) (h : wk_ok fr Z) : 3 ≤ gw fr Z := by
  have := h.1
  have hg : 5 ≤ gr_v (fr + 1) Z.1 Z.2.1 := by unfold gr_v; repeat' split <;> try omega
  unfold gw wd_n
  repeat' split <;> try omega
end
