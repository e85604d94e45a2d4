/-! write: the reference finds the same code -/
section
variable {I M M' : rl_M} {J : Nat → Nat → Int64} {r N n : Nat} {Q : mc_Q} {v x : Int32} {fr b c e k m d t code : Nat} {Z : lz_Z} {P R : List Int32} {s : List Int32 × Nat × Nat}
def px_m (M : rl_M) (P : List Int32) : Prop := ∀ k a, P[k]? = some a → M 99 k = a
theorem on_s1 : Int32.ofNat (k + 1) - 1 = Int32.ofNat k := by rw [show (1 : Int32) = Int32.ofNat 1 from rfl, on_sub (by omega)]; rfl
theorem on_a1 : Int32.ofNat (k + 1) - 1 + (-1) = Int32.ofNat k - 1 := by rw [on_s1, Int32.sub_eq_add_neg]
theorem cm_begins (hf : fr ≤ 16) (h : lz_ok fr Z) (hd : md_is M fr Z) (hP : px_m M P) (hl : P.length ≤ 64) (hdl : d ≤ P.length) (hc : va_c fr Z c) (h1 : Z.2.2.1 c <+: P.drop d → Q (.inl (some (.int 1))) (M, J, rf_w r, sh_w N, n)) (h0 : ¬ Z.2.2.1 c <+: P.drop d → Q (.inl (some (.int 0))) (M, J, rf_w r, sh_w N, n)) :
    mc_WP (mc_en 85 [.ref 84, .int (Int32.ofNat c), .int (Int32.ofNat d), .int (Int32.ofNat P.length)] (M, J, rf_w r, sh_w N, n)) Q := by
  obtain ⟨⟨d1, d2, d3⟩, t1, t2⟩ := hd
  have hc64 := va_lt h hf hc
  have z1 := h.1
  have lz : ∀ c, va_c fr Z c → c < 64 := fun c hc => va_lt h hf hc
  have lenb : ∀ m c, c < m → va_c fr Z c → (Z.2.2.1 c).length ≤ m := by
    intro m
    induction m with
    | zero => intro c hm; omega
    | succ m ih =>
      intro c hm hc
      rcases hc with q | q
      · rw [h.2.1 c q]; simp
      · obtain ⟨v1, v2⟩ := lz_st h q.1 q.2
        have := lz_len h q.1 q.2
        have := ih _ (by omega) v1
        omega
  have hlen := lenb 64 c hc64 hc
  have hne : 1 ≤ (Z.2.2.1 c).length := by
    have := lz_ne h hc
    cases hq : Z.2.2.1 c with
    | nil => exact absurd hq this
    | cons a l => exact Nat.succ_le_succ (Nat.zero_le _)
  have no : ∀ x4 x6, ¬ Z.2.2.1 c <+: P.drop d → mc_WP (85, 32, [.ref 84, .int (Int32.ofNat c), .int (Int32.ofNat d), .int (Int32.ofNat P.length), .int x4, .int 0, .int x6], [], (M, J, rf_w r, sh_w N, n), (0, 0)) Q := fun x4 x6 q => bk_85_32 ⟨fun _ => ⟨Or.inl rfl, h0 q⟩, fun _ => ⟨fun _ => ⟨Or.inl rfl, h0 q⟩, fun z => absurd rfl z⟩⟩
  have run : ∀ k (x4 : Int32), k ≤ (Z.2.2.1 c).length → d + (Z.2.2.1 c).length ≤ P.length → (1 ≤ k → ∃ e, va_c fr Z e ∧ x4 = Int32.ofNat e ∧ Z.2.2.1 e = (Z.2.2.1 c).take k) → (∀ i, k ≤ i → i < (Z.2.2.1 c).length → P[d + i]? = (Z.2.2.1 c)[i]?) → mc_WP (85, 32, [.ref 84, .int (Int32.ofNat c), .int (Int32.ofNat d), .int (Int32.ofNat P.length), .int x4, .int 1, .int (Int32.ofNat k - 1)], [], (M, J, rf_w r, sh_w N, n), (0, 0)) Q := by
    intro k
    induction k with
    | zero =>
      intro x4 hk hle _ hi
      have hp : Z.2.2.1 c <+: P.drop d := List.prefix_iff_getElem?.mpr fun i hlt => by
        rw [List.getElem?_drop, hi i (by omega) hlt, List.getElem?_eq_getElem hlt]
      exact bk_85_32 ⟨fun _ => ⟨Or.inr rfl, h1 hp⟩, fun q => absurd (show (Int32.ofNat 0 - 1 : Int32) < 0 by decide) q⟩
    | succ k ih =>
      intro x4 hk hle he hi
      obtain ⟨e, e1, e2, e3⟩ := he (by omega)
      have he64 := lz e e1
      refine bk_85_32 ?_
      rw [on_a1, on_s1, ← Int32.ofNat_add, on_n (by omega), e2, on_n (by omega)]
      have hkl : k < (Z.2.2.1 c).length := by omega
      have hlast := (t1 e e1).2.1
      rw [e3, List.getLast?_take, if_neg (by omega), show k + 1 - 1 = k from rfl, List.getElem?_eq_getElem hkl] at hlast
      have hl96 : M 96 e = (Z.2.2.1 c)[k] := (Option.some.inj hlast).symm
      have hPk : d + k < P.length := by omega
      have h99 : M 99 (d + k) = P[d + k] := hP _ _ (List.getElem?_eq_getElem hPk)
      rw [hl96, h99]
      refine ⟨fun q => absurd ((on_lt (m := 0) (by omega) (by omega)).mp q) (by omega), fun _ => ⟨fun q => absurd q (by decide), fun _ => ⟨on_vp (by omega) (by omega), on_vp (by omega) (by omega), fun q => ⟨on_vp (by omega) (by omega), no _ _ fun hp => q ?_⟩, fun q => ⟨on_vp (by omega) (by omega), ih _ (by omega) hle (fun hk1 => ?_) fun i hi1 hi2 => ?_⟩⟩⟩⟩
      · have := List.prefix_iff_getElem?.mp hp k hkl
        rw [List.getElem?_drop, List.getElem?_eq_getElem hPk] at this
        exact Option.some.inj this
      · have hel : (Z.2.2.1 e).length = k + 1 := by rw [e3, List.length_take]; omega
        rcases e1 with w | w
        · rw [h.2.1 e w] at hel
          simp at hel
          omega
        · obtain ⟨v1, v2⟩ := lz_st h w.1 w.2
          obtain ⟨a, ha⟩ := (h.2.2.1 e w.1 w.2).2
          refine ⟨_, v1, t2 e w.1 w.2, ?_⟩
          have hl2 := lz_len h w.1 w.2
          have : (Z.2.2.1 e).take k = Z.2.2.1 (Z.2.2.2 e) := by
            rw [ha, List.take_append_of_le_length (by omega), List.take_of_length_le (by omega)]
          rw [← this, e3, List.take_take]
          congr 1
          omega
      · by_cases z : i = k
        · subst z
          rw [List.getElem?_eq_getElem hPk, List.getElem?_eq_getElem hkl, Classical.not_not.mp q]
        · exact hi i (by omega) hi2
  refine bk_85_0 ?_
  rw [on_n (by omega), (t1 c hc).2.2, ← Int32.ofNat_add]
  refine ⟨on_vp (by omega) (by omega), fun q => ⟨on_vp (by omega) (by omega), no _ _ fun hp => ?_⟩, fun q => ⟨on_vp (by omega) (by omega), run _ _ (Nat.le_refl _) ?_ (fun _ => ⟨c, hc, rfl, by rw [List.take_length]⟩) fun i hi1 hi2 => by omega⟩⟩
  · have := hp.length_le
    rw [List.length_drop] at this
    have := (on_lt (by omega) (by omega)).mp q
    omega
  · have : ¬ P.length < d + (Z.2.2.1 c).length := fun z => q ((on_lt (by omega) (by omega)).mpr z)
    omega
theorem hd_pre {l : List Int32} {a : Int32} (h : l <+: x :: R) (h1 : l.head? = some a) : a = x := by
  obtain ⟨ys, e⟩ := List.head?_eq_some_iff.mp h1
  rw [e] at h
  obtain ⟨t, ht⟩ := h
  exact (List.cons.inj ht).1
theorem bf_lt0 {bf : Int32} (h : bf = -1 ∨ ∃ b : Nat, b < 64 ∧ bf = Int32.ofNat b) : bf < 0 ↔ bf = -1 := by
  rcases h with z | ⟨b, b1, z⟩
  · rw [z]; decide
  · rw [z]
    exact ⟨fun q => absurd ((on_lt (m := 0) (by omega) (by omega)).mp q) (by omega), fun q => absurd q (on_m1 (by omega))⟩
theorem at_bf (hf : fr ≤ 16) (h : lz_ok fr Z) (ha : lz_at fr Z R) : Z.2.1 = -1 ∨ ∃ b : Nat, b < 64 ∧ Z.2.1 = Int32.ofNat b := by
  rcases ha with z | ⟨b, b1, b2, _⟩
  · exact Or.inl z.1
  · exact Or.inr ⟨b, va_lt h hf b1, b2⟩
/-- the entry that the next code makes, before it is made -/
theorem cm_repeats (hf : fr ≤ 16) (h : lz_ok fr Z) (hd : md_is M fr Z) (hP : px_m M P) (hl : P.length ≤ 64) (hdl : d < P.length) (hat : lz_at fr Z (P.drop d)) (hx : P.drop d = x :: R)
    (h1 : ∀ b, va_c fr Z b → Z.2.1 = Int32.ofNat b → Z.1 ≤ 63 → Z.2.2.1 b ++ [x] <+: x :: R → Q (.inl (some (.int 1))) (M, J, rf_w r, sh_w N, n))
    (h0 : (Z.2.1 = -1 ∨ 63 < Z.1) ∨ (∃ b, va_c fr Z b ∧ Z.2.1 = Int32.ofNat b ∧ Z.1 ≤ 63 ∧ ¬ Z.2.2.1 b ++ [x] <+: x :: R) → Q (.inl (some (.int 0))) (M, J, rf_w r, sh_w N, n)) :
    mc_WP (mc_en 86 [.ref 84, .int (Int32.ofNat d), .int (Int32.ofNat P.length)] (M, J, rf_w r, sh_w N, n)) Q := by
  obtain ⟨⟨d1, d2, d3⟩, t1, t2⟩ := id hd
  have z1 := h.1
  refine bk_86_0 ?_
  rw [d3, d2, bf_lt0 (at_bf hf h hat)]
  refine ⟨fun q => h0 (Or.inl (Or.inl q)), fun q => ⟨fun q2 => h0 (Or.inl (Or.inr ?_)), fun q2 => ?_⟩⟩
  · have := (on_le (k := 64) (by omega) (by omega)).mp q2
    omega
  · have hz : Z.1 ≤ 63 := by
      have : ¬ 64 ≤ Z.1 := fun z => q2 ((on_le (k := 64) (by omega) (by omega)).mpr z)
      omega
    rcases hat with z | ⟨b, b1, b2, b3⟩
    · exact absurd z.1 q
    · have hb64 := va_lt h hf b1
      obtain ⟨u1, u2, u3⟩ := t1 b b1
      have hRl : (x :: R).length = P.length - d := by rw [← hx, List.length_drop]
      rw [b2, on_n (by omega), u3]
      have hlb : (Z.2.2.1 b).length < 2000000000 ∨ True := Or.inr trivial
      have lenb : ∀ m c, c < m → va_c fr Z c → (Z.2.2.1 c).length ≤ m := by
        intro m
        induction m with
        | zero => intro c hm; omega
        | succ m ih =>
          intro c hm hc
          rcases hc with q | q
          · rw [h.2.1 c q]; simp
          · obtain ⟨v1, v2⟩ := lz_st h q.1 q.2
            have := lz_len h q.1 q.2
            have := ih _ (by omega) v1
            omega
      have hlen := lenb 64 b hb64 b1
      rw [← Int32.ofNat_add]
      have nope : ¬ Z.2.2.1 b ++ [x] <+: x :: R → Q (.inl (some (.int 0))) (M, J, rf_w r, sh_w N, n) := fun q => h0 (Or.inr ⟨b, b1, b2, hz, q⟩)
      refine ⟨on_vp (by omega) (by omega), fun q3 => nope fun hp => ?_, fun q3 => mc_inl ?_⟩
      · have := hp.length_le
        rw [List.length_append, List.length_singleton] at this
        have := (on_le (by omega) (by omega)).mp q3
        omega
      · have q3' : d + (Z.2.2.1 b).length < P.length := by
          have : ¬ P.length ≤ d + (Z.2.2.1 b).length := fun z => q3 ((on_le (by omega) (by omega)).mpr z)
          omega
        refine cm_begins hf h hd hP hl (by omega) b1 (fun hp => ?_) fun hp => ?_
        · refine bk_86_41 ⟨fun q => absurd q (by decide), fun _ => ?_⟩
          rw [d3, b2, on_n (by omega), u3, ← Int32.ofNat_add, on_n (by omega)]
          rw [hx] at hp
          have hfx : M 97 b = x := hd_pre hp u1
          have h99 : M 99 (d + (Z.2.2.1 b).length) = P[d + (Z.2.2.1 b).length] := hP _ _ (List.getElem?_eq_getElem q3')
          have hRb : (x :: R)[(Z.2.2.1 b).length]? = some P[d + (Z.2.2.1 b).length] := by rw [← hx, List.getElem?_drop, List.getElem?_eq_getElem q3']
          rw [hfx, h99]
          have iff : Z.2.2.1 b ++ [x] <+: x :: R ↔ P[d + (Z.2.2.1 b).length] = x := by
            obtain ⟨t, ht⟩ := hp
            have ht0 : t.head? = some P[d + (Z.2.2.1 b).length] := by
              rw [← ht, List.getElem?_append_right (Nat.le_refl _), Nat.sub_self] at hRb
              rw [List.head?_eq_getElem?]; exact hRb
            obtain ⟨ys, ey⟩ := List.head?_eq_some_iff.mp ht0
            rw [← ht, List.prefix_append_right_inj, ey]
            refine ⟨fun ⟨w, hw⟩ => (List.cons.inj hw).1.symm, fun hw => ⟨ys, by rw [hw]; rfl⟩⟩
          refine ⟨on_vp (by omega) (by omega), on_vp (by omega) (by omega), on_vp (by omega) (by omega), fun q => nope fun z => q (iff.mp z), fun q => h1 b b1 b2 hz (iff.mpr (Classical.not_not.mp q))⟩
        · refine bk_86_41 ⟨fun _ => nope fun hp2 => hp ?_, fun q => absurd rfl q⟩
          rw [hx]
          exact List.IsPrefix.trans (List.prefix_append _ _) hp2
/-- the longest -/
theorem cm_longest (hf : fr ≤ 16) (h : lz_ok fr Z) (hd : md_is M fr Z) (hP : px_m M P) (hv : vl_p fr P) (hl : P.length ≤ 64) (hdl : d < P.length) (hat : lz_at fr Z (P.drop d)) (hx : P.drop d = x :: R)
    (hk : ∀ c, gd_c fr (lz_nw Z x) (x :: R) c → Q (.inl (some (.int (Int32.ofNat c)))) (M, J, rf_w r, sh_w N, n)) :
    mc_WP (mc_en 87 [.ref 84, .int (Int32.ofNat d), .int (Int32.ofNat P.length)] (M, J, rf_w r, sh_w N, n)) Q := by
  obtain ⟨⟨d1, d2, d3⟩, t1, t2⟩ := id hd
  have z1 := h.1
  have hPd : P[d]? = some x := by
    have := congrArg (fun l : List Int32 => l[0]?) hx
    simp only [List.getElem?_drop, Nat.add_zero] at this
    exact this
  obtain ⟨j, j1, j2⟩ := hv x (List.mem_of_getElem? hPd)
  have len64 : ∀ c, va_c fr Z c → (Z.2.2.1 c).length ≤ 64 := by
    have lenb : ∀ m c, c < m → va_c fr Z c → (Z.2.2.1 c).length ≤ m := by
      intro m
      induction m with
      | zero => intro c hm; omega
      | succ m ih =>
        intro c hm hc
        rcases hc with q | q
        · rw [h.2.1 c q]; simp
        · obtain ⟨v1, v2⟩ := lz_st h q.1 q.2
          have := lz_len h q.1 q.2
          have := ih _ (by omega) v1
          omega
    exact fun c hc => lenb 64 c (va_lt h hf hc) hc
  have ends : ∀ best x4, va_c fr Z best → Z.2.2.1 best <+: x :: R → (∀ c', va_c fr Z c' → Z.2.2.1 c' <+: x :: R → (Z.2.2.1 c').length ≤ (Z.2.2.1 best).length) → mc_WP (mc_en 86 [.ref 84, .int (Int32.ofNat d), .int (Int32.ofNat P.length)] (M, J, rf_w r, sh_w N, n)) (mc_kr (fun v t => mc_WP (87, 70, [.ref 84, .int (Int32.ofNat d), .int (Int32.ofNat P.length), .int (Int32.ofNat best), .int x4], v.toList ++ [], t, (0, 0)) Q) fun k t => Q (.inr k) t) := fun best x4 v1 v2 v3 => by
    have hb64 := va_lt h hf v1
    have l1 := len64 best v1
    refine cm_repeats hf h hd hP hl hdl hat hx (fun b b1 b2 hz hp => ?_) fun q => ?_
    · have hbb := va_lt h hf b1
      have l2 := len64 b b1
      have hbn : Z.2.1.toNatClampNeg = b := by rw [b2, on_n (by omega)]
      have hnw := nw_new (Z := Z) (x := x) (fun z => by rcases z with z | z; exact on_m1 (b := b) (by omega) (b2 ▸ z); omega)
      rw [hbn] at hnw
      refine bk_87_70 ⟨fun q => absurd q (by decide), fun _ => ?_⟩
      rw [d3, d2, b2, on_n (by omega), on_n (by omega), (t1 b b1).2.2, (t1 best v1).2.2, on_1]
      have nev : ¬ va_c fr Z Z.1 := fun q => by rcases q with q | q <;> omega
      have cases' : ∀ c', va_c fr (lz_nw Z x) c' → (c' = Z.1 ∧ (lz_nw Z x).2.2.1 c' = Z.2.2.1 b ++ [x]) ∨ (va_c fr Z c' ∧ (lz_nw Z x).2.2.1 c' = Z.2.2.1 c') := fun c' hc' => by
        rw [hnw] at hc' ⊢
        by_cases q : c' = Z.1
        · exact Or.inl ⟨q, if_pos q⟩
        · refine Or.inr ⟨?_, if_neg q⟩
          rcases hc' with y | y
          · exact Or.inl y
          · have : c' < Z.1 + 1 := y.2
            exact Or.inr ⟨y.1, by omega⟩
      have up : ∀ c', va_c fr Z c' → va_c fr (lz_nw Z x) c' ∧ (lz_nw Z x).2.2.1 c' = Z.2.2.1 c' := fun c' hc' => by
        rw [hnw]
        refine ⟨?_, if_neg fun (q : c' = Z.1) => nev (q ▸ hc')⟩
        rcases hc' with y | y
        · exact Or.inl y
        · exact Or.inr ⟨y.1, by show c' < Z.1 + 1; omega⟩
      have nwS : va_c fr (lz_nw Z x) Z.1 ∧ (lz_nw Z x).2.2.1 Z.1 = Z.2.2.1 b ++ [x] := by
        rw [hnw]
        exact ⟨Or.inr ⟨z1.1, by show Z.1 < Z.1 + 1; omega⟩, if_pos rfl⟩
      have ll : (Z.2.2.1 b ++ [x]).length = (Z.2.2.1 b).length + 1 := by rw [List.length_append]; rfl
      refine ⟨on_vp (by omega) (by omega), on_vp (by omega) (by omega), fun q => hk best ⟨(up best v1).1, by rw [(up best v1).2]; exact v2, fun c' hc' hp' => ?_⟩, fun q => hk Z.1 ⟨nwS.1, by rw [nwS.2]; exact hp, fun c' hc' hp' => ?_⟩⟩
      · have := (on_le (by omega) (by omega)).mp q
        rw [(up best v1).2]
        rcases cases' c' hc' with ⟨y1, y2⟩ | ⟨y1, y2⟩
        · rw [y2, ll]; exact this
        · rw [y2] at hp' ⊢; exact v3 c' y1 hp'
      · have : ¬ (Z.2.2.1 b).length + 1 ≤ (Z.2.2.1 best).length := fun z => q ((on_le (by omega) (by omega)).mpr z)
        rw [nwS.2, ll]
        rcases cases' c' hc' with ⟨y1, y2⟩ | ⟨y1, y2⟩
        · rw [y2, ll]; exact Nat.le_refl _
        · rw [y2] at hp' ⊢
          have := v3 c' y1 hp'
          omega
    · refine bk_87_70 ⟨fun _ => hk best ?_, fun q => absurd rfl q⟩
      rcases q with q | ⟨b, b1, b2, hz, hp⟩
      · rw [nw_old q]
        exact ⟨v1, v2, v3⟩
      · have hbb := va_lt h hf b1
        have hbn : Z.2.1.toNatClampNeg = b := by rw [b2, on_n (by omega)]
        have hnw := nw_new (Z := Z) (x := x) (fun z => by rcases z with z | z; exact on_m1 (b := b) (by omega) (b2 ▸ z); omega)
        rw [hbn] at hnw
        have nev : ¬ va_c fr Z Z.1 := fun q => by rcases q with q | q <;> omega
        rw [hnw]
        refine ⟨?_, ?_, fun c' hc' hp' => ?_⟩
        · rcases v1 with y | y
          · exact Or.inl y
          · exact Or.inr ⟨y.1, by show best < Z.1 + 1; omega⟩
        · show (if best = Z.1 then _ else _) <+: _
          rw [if_neg (fun q => nev (q ▸ v1) : ¬ best = Z.1)]
          exact v2
        · have hp2 : (if c' = Z.1 then Z.2.2.1 b ++ [x] else Z.2.2.1 c') <+: x :: R := hp'
          show (if c' = Z.1 then Z.2.2.1 b ++ [x] else Z.2.2.1 c').length ≤ (if best = Z.1 then Z.2.2.1 b ++ [x] else Z.2.2.1 best).length
          rw [if_neg (fun q => nev (q ▸ v1) : ¬ best = Z.1)]
          by_cases q : c' = Z.1
          · rw [if_pos q] at hp2
            exact absurd hp2 hp
          · rw [if_neg q] at hp2 ⊢
            refine v3 c' ?_ hp2
            rcases hc' with y | y
            · exact Or.inl y
            · have : c' < Z.1 + 1 := y.2
              exact Or.inr ⟨y.1, by omega⟩
  have run : ∀ m e best, e + m = Z.1 → fr + 2 ≤ e → va_c fr Z best → Z.2.2.1 best <+: x :: R → (∀ c', va_c fr Z c' → (c' < fr ∨ c' < e) → Z.2.2.1 c' <+: x :: R → (Z.2.2.1 c').length ≤ (Z.2.2.1 best).length) → mc_WP (87, 15, [.ref 84, .int (Int32.ofNat d), .int (Int32.ofNat P.length), .int (Int32.ofNat best), .int (Int32.ofNat e)], [], (M, J, rf_w r, sh_w N, n), (0, 0)) Q := by
    intro m
    induction m with
    | zero =>
      intro e best he e1 v1 v2 v3
      refine bk_87_15 ?_
      rw [d2]
      refine ⟨fun _ => mc_inl (ends best _ v1 v2 fun c' hc' => v3 c' hc' ?_), fun q => absurd ((on_le (by omega) (by omega)).mpr (by omega)) q⟩
      rcases hc' with y | y
      · exact Or.inl y
      · exact Or.inr (by omega)
    | succ m ih =>
      intro e best he e1 v1 v2 v3
      have hb64 := va_lt h hf v1
      have ve : va_c fr Z e := Or.inr ⟨e1, by omega⟩
      have l1 := len64 best v1
      have l2 := len64 e ve
      refine bk_87_15 ?_
      rw [d2, on_n (by omega), on_n (by omega), (t1 e ve).2.2, (t1 best v1).2.2, on_1]
      refine ⟨fun q => absurd ((on_le (by omega) (by omega)).mp q) (by omega), fun _ => ⟨on_vp (by omega) (by omega), on_vp (by omega) (by omega), fun q => ?_, fun q => mc_inl ?_⟩⟩
      · refine ih (e + 1) best (by omega) (by omega) v1 v2 fun c' hc' hlt hp => ?_
        by_cases z : c' = e
        · rw [z]; exact (on_le (by omega) (by omega)).mp q
        · exact v3 c' hc' (by omega) hp
      · have q' : ¬ (Z.2.2.1 e).length ≤ (Z.2.2.1 best).length := fun z => q ((on_le (by omega) (by omega)).mpr z)
        refine cm_begins hf h hd hP hl (by omega) ve (fun hp => ?_) fun hp => ?_
        · refine bk_87_48 ⟨fun q => absurd q (by decide), fun _ => ?_⟩
          rw [on_1]
          rw [hx] at hp
          refine ih (e + 1) e (by omega) (by omega) ve hp fun c' hc' hlt hp' => ?_
          by_cases z : c' = e
          · rw [z]; exact Nat.le_refl _
          · have := v3 c' hc' (by omega) hp'
            omega
        · refine bk_87_48 ⟨fun _ => ?_, fun q => absurd rfl q⟩
          rw [on_1]
          rw [hx] at hp
          refine ih (e + 1) best (by omega) (by omega) v1 v2 fun c' hc' hlt hp' => ?_
          by_cases z : c' = e
          · rw [z] at hp'; exact absurd hp' hp
          · exact v3 c' hc' (by omega) hp'
  refine bk_87_0 ?_
  rw [on_n (by omega), hP d x hPd, d1, on_p2, j2]
  refine ⟨on_vp (by omega) (by omega), run (Z.1 - (fr + 2)) (fr + 2) j (by omega) (Nat.le_refl _) (Or.inl j1) (by rw [h.2.1 j j1, ← j2]; exact ⟨R, rfl⟩) fun c' hc' hlt hp => ?_⟩
  rcases hc' with y | y
  · rw [h.2.1 c' y, h.2.1 j j1]; exact Nat.le_refl _
  · omega
end
