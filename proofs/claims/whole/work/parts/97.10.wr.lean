/-! write: the class's codes -/
section
variable {I M M' : rl_M} {J : Nat → Nat → Int64} {r N n : Nat} {Q : mc_Q} {v x : Int32} {fr b c e k a1 a1z m d t : Nat} {Z : lz_Z} {P : List Int32} {s : List Int32 × Nat × Nat}
def wk_K (M M' : rl_M) : Prop := ∀ b, (b < 56 ∨ b = 62 ∨ 65 ≤ b) → M' b = M b
theorem wk_K.tr {M2 : rl_M} (h : wk_K M M') (h2 : wk_K M' M2) : wk_K M M2 := fun b q => (h2 b q).trans (h b q)
theorem pc_cg (h : pc_is M s) (e1 : M' 63 = M 63) (e2 : M' 64 = M 64) (e3 : M' 56 = M 56) : pc_is M' s := by
  unfold pc_is
  rw [e1, e2, e3]
  exact h
/-- the pixels in their order, as the class finds them -/
def px_c (M : rl_M) (a1 a1z : Nat) (P : List Int32) : Prop := (∀ k a, P[k]? = some a → M a1 (M 62 k).toNatClampNeg = a) ∧ ∀ k, k < P.length → vp_in (M 62 k) a1z
theorem px_cg (h : px_c M a1 a1z P) (e1 : M' a1 = M a1) (e2 : M' 62 = M 62) : px_c M' a1 a1z P := by
  unfold px_c
  rw [e1, e2]
  exact h
def vl_p (fr : Nat) (P : List Int32) : Prop := ∀ a ∈ P, ∃ j, j < fr ∧ a = Int32.ofNat j
theorem cc_w57 (hf : fr ≤ 16) (h : lz_ok fr Z) (hd : cd_is M 57 fr Z) (hk : Q (.inl (some (.int (Int32.ofNat (gw fr Z))))) (M, J, rf_w r, sh_w N, n)) : mc_WP (mc_en 199 [.ref 57] (M, J, rf_w r, sh_w N, n)) Q :=
  cc_width (en := fr + 1) (nx := Z.1) (bf := Z.2.1) (by decide) hd.1.2.1 hd.1.2.2.1 hd.1.2.2.2 (by omega) h.1.2 hk
theorem cc_str (hf : fr ≤ 16) (hok : lz_ok fr Z) (hat : lz_at fr Z (P.drop d)) (hd : cd_is M 57 fr Z) (hs : pc_is M s) (hso : pk_ok s) (hsh : sh_w N a1 = (2, a1z)) (ha : a1 < 54) (hP : px_c M a1 a1z P) (hv : vl_p fr P) (hl : P.length ≤ 64) (hdl : d < P.length) (hbt : bt_n s + 6 ≤ 512)
    (hk : ∀ M' c x R', P.drop d = x :: R' → lz_ok fr (lz_nw Z x) → gd_c fr (lz_nw Z x) (x :: R') c → wk_K M M' → cd_is M' 57 fr (lz_bf (lz_nw Z x) c) → pc_is M' (pk_b s c (gw fr Z)) → Q (.inl (some (.int (Int32.ofNat ((lz_nw Z x).2.2.1 c).length)))) (M', J, rf_w r, sh_w N, n)) :
    mc_WP (mc_en 150 [.ref 56, .ref a1, .int (Int32.ofNat d), .int (Int32.ofNat P.length)] (M, J, rf_w r, sh_w N, n)) Q := by
  refine bk_150_0 hsh (mc_inl (cc_w57 hf hok hd ?_))
  have hdrop : P.drop d = P[d] :: P.drop (d + 1) := List.drop_eq_getElem_cons hdl
  generalize hx : P[d] = x at hdrop
  have hxs : P[d]? = some x := by rw [List.getElem?_eq_getElem hdl, hx]
  rw [hdrop] at hat
  obtain ⟨j, j1, j2⟩ := hv x (List.mem_of_getElem? hxs)
  have hok' := nw_ok hf hok hat
  have z1 := hok'.1
  have z0 := hok.1
  have hk0 := fun M' c => hk M' c x _ hdrop hok'
  generalize hR : x :: P.drop (d + 1) = R at hk0
  have hRd : P.drop d = R := by rw [hdrop, hR]
  have hRl : R.length = P.length - d := by rw [← hRd, List.length_drop]
  have hpx : M a1 (M 62 d).toNatClampNeg = x := hP.1 d x hxs
  -- the bits of the code found
  have fin : ∀ (M1 : rl_M) (c : Nat) (x7 : Int32) (x8 : Value), wk_K M M1 → cd_is M1 57 fr (lz_nw Z x) → pc_is M1 s → gd_c fr (lz_nw Z x) R c →
      mc_WP (mc_en 152 [.ref 56, .int (Int32.ofNat c), .int (Int32.ofNat (gw fr Z))] (M1, J, rf_w r, sh_w N, n)) (mc_kr (fun v t => mc_WP (150, 92, [.ref 56, .ref a1, .int (Int32.ofNat d), .int (Int32.ofNat P.length), .int (Int32.ofNat (gw fr Z)), .int (Int32.ofNat c), .int (Int32.ofNat ((lz_nw Z x).2.2.1 c).length), .int x7, x8], v.toList ++ [], t, (0, 0)) Q) fun k t => Q (.inr k) t) := fun M1 c x7 x8 k1 d1 s1 hg => by
    have hc64 := va_lt hok' hf hg.1
    have w6 := gw_6 (fr := fr) (Z := Z)
    refine cc_bits s1 hso hc64 w6 (by unfold bt_n at hbt; omega) fun M2 k2 s2 => ?_
    refine bk_150_92 hsh ?_
    refine hk0 _ c hg (fun b q => ?_) ⟨⟨?_, ?_, ?_, ?_⟩, ?_⟩ ?_
    · rw [up_ne (by omega), k2 b (by omega) (by omega) (by omega)]; exact k1 b q
    · rw [up_nk (by decide), k2 57 (by decide) (by decide) (by decide)]; exact d1.1.1
    · rw [up_nk (by decide), k2 57 (by decide) (by decide) (by decide)]; exact d1.1.2.1
    · rw [up_nk (by decide), k2 57 (by decide) (by decide) (by decide)]; exact d1.1.2.2.1
    · rw [up_at]; rfl
    · rw [up_ne (show ¬ 57 + 1 = 57 by decide), up_ne (show ¬ 57 + 2 = 57 by decide), up_ne (show ¬ 57 + 3 = 57 by decide), up_ne (show ¬ 57 + 4 = 57 by decide), k2 _ (by decide) (by decide) (by decide), k2 _ (by decide) (by decide) (by decide), k2 _ (by decide) (by decide) (by decide), k2 _ (by decide) (by decide) (by decide)]
      exact tb_bf d1.2
    · exact pc_cg s2 (up_ne (by decide)) (up_ne (by decide)) (up_ne (by decide))
  have walk : ∀ (M1 : rl_M), wk_K M M1 → cd_is M1 57 fr (lz_nw Z x) → pc_is M1 s → ∀ m k c (x8 : Value), k + m = R.length → 1 ≤ k → va_c fr (lz_nw Z x) c → (lz_nw Z x).2.2.1 c = R.take k →
      mc_WP (150, 36, [.ref 56, .ref a1, .int (Int32.ofNat d), .int (Int32.ofNat P.length), .int (Int32.ofNat (gw fr Z)), .int (Int32.ofNat c), .int (Int32.ofNat k), .int (Int32.ofNat (d + k)), x8], [], (M1, J, rf_w r, sh_w N, n), (0, 0)) Q := by
    intro M1 k1 d1 s1 m
    have hP1 : px_c M1 a1 a1z P := px_cg hP (k1 a1 (by omega)) (k1 62 (by omega))
    induction m with
    | zero =>
      intro k c x8 hkm hk1 hc hS
      have hlen : ((lz_nw Z x).2.2.1 c).length = k := by rw [hS, List.length_take]; omega
      refine bk_150_36 hsh ⟨fun _ => mc_inl ?_, fun q => absurd ((on_le (by omega) (by omega)).mpr (by omega)) q⟩
      rw [← hlen]
      refine fin M1 c _ x8 k1 d1 s1 ⟨hc, by rw [hS]; exact List.take_prefix _ _, fun c' _ hp => ?_⟩
      have := hp.length_le
      omega
    | succ m ih =>
      intro k c x8 hkm hk1 hc hS
      have hlen : ((lz_nw Z x).2.2.1 c).length = k := by rw [hS, List.length_take]; omega
      have hkR : k < R.length := by omega
      have hPk : P[d + k]? = some R[k] := by
        rw [← List.getElem?_drop, hRd, List.getElem?_eq_getElem hkR]
      have hlk : d + k < P.length := by omega
      refine bk_150_36 hsh ⟨fun q => absurd ((on_le (by omega) (by omega)).mp q) (by omega), fun _ => ?_⟩
      rw [on_n (by omega), hP1.1 _ _ hPk]
      refine ⟨on_vp (by omega) (by omega), hP1.2 _ hlk, mc_inl ?_⟩
      refine cc_longer (by decide) hf hok' d1 hc (fun hno => ?_) fun e e1 e2 he => ?_
      · refine bk_150_60 hsh ⟨fun q => absurd rfl q, fun _ => mc_inl ?_⟩
        rw [← hlen]
        refine fin M1 c _ _ k1 d1 s1 (gd_stop hok' hc hS hk1 (by omega) fun e e1 e2 q => ?_)
        obtain ⟨_, a, ha, hRa⟩ := q
        rw [List.getElem?_eq_getElem hkR] at hRa
        rw [← Option.some.inj hRa] at ha
        exact hno e e1 e2 ha
      · refine bk_150_60 hsh ⟨fun _ => ?_, fun q => absurd (on_m1 (by omega)) q⟩
        rw [on_1, on_1]
        refine ih (k + 1) e _ (by omega) (by omega) (Or.inr ⟨e1, e2⟩) ?_
        rw [he, hS, List.take_succ_eq_append_getElem hkR]
  have strt : ∀ (M1 : rl_M), wk_K M M1 → cd_is M1 57 fr (lz_nw Z x) → pc_is M1 s → mc_WP (150, 36, [.ref 56, .ref a1, .int (Int32.ofNat d), .int (Int32.ofNat P.length), .int (Int32.ofNat (gw fr Z)), .int x, .int (1 : Int32), .int (Int32.ofNat d + 1), .null], [], (M1, J, rf_w r, sh_w N, n), (0, 0)) Q := fun M1 k1 d1 s1 => by
    have := walk M1 k1 d1 s1 (R.length - 1) 1 j .null (by omega) (by omega) (Or.inl j1) (by rw [hok'.2.1 j j1, ← hR, ← j2]; rfl)
    rw [← j2, ← on_1 (k := d)] at this
    exact this
  refine bk_150_7 hsh ?_
  rw [on_n (by omega), hpx]
  obtain ⟨⟨d1, d2, d3, d4⟩, dt⟩ := id hd
  refine ⟨on_vp (by omega) (by omega), hP.2 d hdl, fun q => ?_, fun q => ?_⟩
  · have e : lz_nw Z x = Z := nw_old (Or.inl (d4 ▸ q))
    exact strt M (fun _ _ => rfl) (by rw [e]; exact hd) hs
  · rw [d3, d4, on_n (by omega)]
    refine ⟨fun q2 => ?_, fun q2 => ?_⟩
    · have e : lz_nw Z x = Z := nw_old (Or.inr ((on_lt (k := 63) (by omega) (by have := hok.1; omega)).mp q2))
      exact strt M (fun _ _ => rfl) (by rw [e]; exact hd) hs
    · rw [d4] at q
      have hz := hok.1
      have q3 : ¬ 63 < Z.1 := fun z => q2 ((on_lt (k := 63) (by omega) (by omega)).mpr z)
      rcases hat with z | ⟨b, b1, b2, b3⟩
      · exact absurd z.1 q
      · have hb64 := va_lt hok hf b1
        have hnew : lz_nw Z x = _ := nw_new (x := x) (fun z => by rcases z with z | z; exact q z; exact q3 z)
        have hn1 : (lz_nw Z x).1 = Z.1 + 1 := by rw [hnew]
        have hn2 : (lz_nw Z x).2.1 = Z.2.1 := by rw [hnew]
        rw [b2, on_n (k := b) (by omega), on_1 (k := Z.1)]
        refine ⟨on_vp (by omega) (by omega), on_vp (by omega) (by omega), on_vp (by omega) (by omega), on_vp (by omega) (by omega), on_vp (by omega) (by omega), on_vp (by omega) (by omega), strt _ (fun b q => ?_) ⟨⟨?_, ?_, ?_, ?_⟩, ?_⟩ ?_⟩
        · rw [up_ne (by omega), up_ne (by omega), up_ne (by omega), up_ne (by omega), up_ne (by omega)]
        · rw [up_nk (by decide), up_ne (by decide), up_ne (by decide), up_ne (by decide), up_ne (by decide)]; exact d1
        · rw [up_nk (by decide), up_ne (by decide), up_ne (by decide), up_ne (by decide), up_ne (by decide)]; exact d2
        · rw [up_at, hn1]
        · rw [up_nk (by decide), up_ne (by decide), up_ne (by decide), up_ne (by decide), up_ne (by decide), hn2]; exact d4
        · refine tb_nw hf hok dt b1 b2 (by omega) (fun k => ?_) (fun k => ?_) (fun k => ?_) fun k => ?_
          · rw [up_ne (by decide), up_ne (by decide), up_ne (by decide), up_ne (by decide)]; rw [show (57 + 1 : Nat) = 58 from rfl, up_row]
          · rw [up_ne (by decide), up_ne (by decide), up_ne (by decide)]; rw [show (57 + 2 : Nat) = 59 from rfl, up_row, up_ne (by decide)]
          · rw [up_ne (by decide), up_ne (by decide)]; rw [show (57 + 3 : Nat) = 60 from rfl, up_row, up_ne (by decide), up_ne (by decide)]
          · rw [up_ne (by decide)]; rw [show (57 + 4 : Nat) = 61 from rfl, up_row, up_ne (by decide), up_ne (by decide), up_ne (by decide)]
        · exact pc_cg hs (by rw [up_ne (by decide), up_ne (by decide), up_ne (by decide), up_ne (by decide), up_ne (by decide)]) (by rw [up_ne (by decide), up_ne (by decide), up_ne (by decide), up_ne (by decide), up_ne (by decide)]) (by rw [up_ne (by decide), up_ne (by decide), up_ne (by decide), up_ne (by decide), up_ne (by decide)])
end
