/-! write: the class's codes of a whole picture -/
section
variable {I M M' : rl_M} {J : Nat → Nat → Int64} {r N n : Nat} {Q : mc_Q} {v x : Int32} {fr b c e k a1 a1z m d t code : Nat} {Z : lz_Z} {P : List Int32} {s : List Int32 × Nat × Nat}
theorem wk_of (h : pc_K M M') : wk_K M M' := fun b q => h b (by omega) (by omega) (by omega)
theorem cd_pc (h : pc_K M M') (hd : cd_is M 57 fr Z) : cd_is M' 57 fr Z := cd_cg hd (h _ (by decide) (by decide) (by decide)) (h _ (by decide) (by decide) (by decide)) (h _ (by decide) (by decide) (by decide)) (h _ (by decide) (by decide) (by decide)) (h _ (by decide) (by decide) (by decide))
theorem cc_code1 (hf : fr ≤ 16) (hok : lz_ok fr Z) (hd : cd_is M 57 fr Z) (hs : pc_is M s) (hso : pk_ok s) (hc : code < 64) (hbt : bt_n s + 6 ≤ 512)
    (hk : ∀ M', pc_K M M' → pc_is M' (pk_b s code (gw fr Z)) → Q (.inl none) (M', J, rf_w r, sh_w N, n)) : mc_WP (mc_en 151 [.ref 56, .int (Int32.ofNat code)] (M, J, rf_w r, sh_w N, n)) Q := by
  have w6 := gw_6 (fr := fr) (Z := Z)
  refine bk_151_0 (mc_inl (cc_w57 hf hok hd ?_))
  refine bk_151_9 (mc_inl ?_)
  refine cc_bits hs hso hc w6 (by unfold bt_n at hbt; omega) fun M2 k2 s2 => ?_
  exact bk_151_12 (hk M2 k2 s2)
theorem cc_codes (hf : fr ≤ 16) (hd : cd_is M 57 fr (lz_0 fr)) (hs : pc_is M ([], 0, 0)) (hsh : sh_w N a1 = (2, a1z)) (ha : a1 < 54) (hP : px_c M a1 a1z P) (hv : vl_p fr P) (hl : P.length ≤ 64)
    (hk : ∀ M', wk_K M M' → pc_is M' (wr_f fr P.length (lz_0 fr) P (pk_b ([], 0, 0) fr (gw fr (lz_0 fr)))) → Q (.inl none) (M', J, rf_w r, sh_w N, n)) :
    mc_WP (mc_en 149 [.ref 56, .ref a1, .int (Int32.ofNat P.length)] (M, J, rf_w r, sh_w N, n)) Q := by
  have hok0 := l0_ok (fr := fr) hf
  have o0 : pk_ok ([], 0, 0) := ⟨by decide, by decide⟩
  refine bk_149_0 hsh (mc_inl ?_)
  rw [hd.1.1]
  refine cc_code1 hf hok0 hd hs o0 (by omega) (by decide) fun M1 k1 s1 => ?_
  refine bk_149_11 hsh ?_
  have run : ∀ t d turn (Z : lz_Z) (s : List Int32 × Nat × Nat) (M1 : rl_M), P.length ≤ d + t → d ≤ P.length → turn ≤ d → lz_ok fr Z → lz_at fr Z (P.drop d) → cd_is M1 57 fr Z → pc_is M1 s → pk_ok s → bt_n (wr_f fr t Z (P.drop d) s) ≤ 402 → px_c M1 a1 a1z P → (∀ M', wk_K M1 M' → pc_is M' (wr_f fr t Z (P.drop d) s) → Q (.inl none) (M', J, rf_w r, sh_w N, n)) →
      mc_WP (149, 16, [.ref 56, .ref a1, .int (Int32.ofNat P.length), .int (Int32.ofNat d), .int (Int32.ofNat turn)], [], (M1, J, rf_w r, sh_w N, n), (0, 0)) Q := by
    intro t
    have done : ∀ t d turn (Z : lz_Z) (s : List Int32 × Nat × Nat) (M1 : rl_M), d = P.length → lz_ok fr Z → cd_is M1 57 fr Z → pc_is M1 s → pk_ok s → bt_n (wr_f fr t Z (P.drop d) s) ≤ 402 → (∀ M', wk_K M1 M' → pc_is M' (wr_f fr t Z (P.drop d) s) → Q (.inl none) (M', J, rf_w r, sh_w N, n)) →
        mc_WP (149, 16, [.ref 56, .ref a1, .int (Int32.ofNat P.length), .int (Int32.ofNat d), .int (Int32.ofNat turn)], [], (M1, J, rf_w r, sh_w N, n), (0, 0)) Q := by
      intro t d turn Z s M1 e1 hok d1 s1 o1 hb hq
      have hm := wr_mono (fr := fr) t Z (P.drop d) s
      rw [e1, List.drop_length, wr_nil] at hq
      have last : mc_WP (mc_en 151 [.ref 56, .int (M1 57 5)] (M1, J, rf_w r, sh_w N, n)) (mc_kr (fun v t => mc_WP (149, 87, [.ref 56, .ref a1, .int (Int32.ofNat P.length), .int (Int32.ofNat d), .int (Int32.ofNat turn)], v.toList ++ [], t, (0, 0)) Q) fun k t => Q (.inr k) t) := by
        rw [d1.1.2.1]
        refine cc_code1 hf hok d1 s1 o1 (by omega) (by omega) fun M2 k2 s2 => ?_
        exact bk_149_87 hsh (hq M2 (wk_of k2) s2)
      exact bk_149_16 hsh ⟨fun _ => mc_inl last, fun _ => ⟨fun _ => mc_inl last, fun q => absurd ((on_le (by omega) (by omega)).mpr (by omega)) q⟩⟩
    induction t with
    | zero =>
      intro d turn Z s M1 h1 h2 h3 hok hat d1 s1 o1 hb p1 hq
      exact done 0 d turn Z s M1 (by omega) hok d1 s1 o1 hb hq
    | succ t ih =>
      intro d turn Z s M1 h1 h2 h3 hok hat d1 s1 o1 hb p1 hq
      by_cases q : d = P.length
      · exact done (t + 1) d turn Z s M1 q hok d1 s1 o1 hb hq
      · have hm := Nat.le_trans (wr_mono (fr := fr) (t + 1) Z (P.drop d) s) hb
        refine bk_149_16 hsh ⟨fun q => absurd ((on_le (by omega) (by omega)).mp q) (by omega), fun _ => ⟨fun q => absurd ((on_le (by omega) (by omega)).mp q) (by omega), fun _ => mc_inl ?_⟩⟩
        refine cc_str hf hok hat d1 s1 o1 hsh ha p1 hv hl (by omega) (by omega) fun M2 c x R' hR hok' hg k2 d2 s2 => ?_
        obtain ⟨l1, l2⟩ := gd_b hok' hg
        have z1 := hok'.1
        have hw := gw_6 (fr := fr) (Z := Z)
        rw [hR] at hb hq
        have hRl : (x :: R').length = P.length - d := by rw [← hR, List.length_drop]
        have hdd : (x :: R').drop ((lz_nw Z x).2.2.1 c).length = P.drop (d + ((lz_nw Z x).2.2.1 c).length) := by rw [← hR, List.drop_drop]
        have p2 : px_c M2 a1 a1z P := px_cg p1 (k2 _ (by omega)) (k2 _ (by omega))
        have e6 : M2 57 6 = Int32.ofNat (lz_nw Z x).1 := d2.1.2.2.1
        have hat2 := bf_at hok' hg
        refine bk_149_35 hsh ?_
        rw [← Int32.ofNat_add, on_1, e6]
        have keep : ¬ ((lz_nw Z x).1 = 64 ∧ (x :: R').drop ((lz_nw Z x).2.2.1 c).length ≠ []) → mc_WP (149, 16, [.ref 56, .ref a1, .int (Int32.ofNat P.length), .int (Int32.ofNat (d + ((lz_nw Z x).2.2.1 c).length)), .int (Int32.ofNat (turn + 1))], [], (M2, J, rf_w r, sh_w N, n), (0, 0)) Q := fun z => by
          rw [wr_go hok' hg z, hdd] at hb hq
          rw [hdd] at hat2
          exact ih _ _ _ _ M2 (by omega) (by omega) (by omega) (bf_ok hok') hat2 d2 s2 (pk_bok _ _ _ o1) hb p2 fun M' kk pp => hq M' (k2.tr kk) pp
        refine ⟨fun z => keep fun y => absurd ((on_le (m := 63) (by omega) (by omega)).mp z) (by omega), fun z => ⟨fun z2 => keep fun y => y.2 ?_, fun z2 => mc_inl ?_⟩⟩
        · have := (on_le (by omega) (by omega)).mp z2
          exact List.drop_eq_nil_of_le (by omega)
        · have z' : (lz_nw Z x).1 = 64 := by
            have : ¬ (lz_nw Z x).1 ≤ 63 := fun y => z ((on_le (m := 63) (by omega) (by omega)).mpr y)
            omega
          have z2' : (x :: R').drop ((lz_nw Z x).2.2.1 c).length ≠ [] := fun y => by
            have := List.drop_eq_nil_iff.mp y
            exact z2 ((on_le (by omega) (by omega)).mpr (by omega))
          rw [wr_rf hok' hg z' z2', hdd] at hb hq
          rw [d2.1.1]
          have b2 := bt_b (gw fr Z) c s
          refine cc_code1 hf (bf_ok hok') d2 s2 (pk_bok _ _ _ o1) (by omega) (by omega) fun M3 k3 s3 => ?_
          have d3 := cd_pc k3 d2
          refine bk_149_63 hsh ?_
          rw [on_1, d3.1.2.1, on_1 (k := fr + 1)]
          refine ih _ _ _ _ _ (by omega) (by omega) (by omega) (rf_ok (by omega) hok') rf_at ⟨⟨?_, ?_, ?_, ?_⟩, ?_⟩ (pc_cg s3 (by rw [up_ne (by decide), up_ne (by decide)]) (by rw [up_ne (by decide), up_ne (by decide)]) (by rw [up_ne (by decide), up_ne (by decide)])) (pk_bok _ _ _ (pk_bok _ _ _ o1)) hb (px_cg p2 (by rw [up_ne (by omega), up_ne (by omega)]; exact k3 _ (by omega) (by omega) (by omega)) (by rw [up_ne (by omega), up_ne (by omega)]; exact k3 _ (by omega) (by omega) (by omega))) fun M' kk pp => hq M' ((k2.tr (wk_of k3)).tr fun b y => (kk b y).trans (by rw [up_ne (by omega), up_ne (by omega)])) pp
          · rw [up_nk (by decide), up_nk (by decide)]; exact d3.1.1
          · rw [up_nk (by decide), up_nk (by decide)]; exact d3.1.2.1
          · rw [up_nk (by decide), up_at]; rfl
          · rw [up_at]; rfl
          · rw [up_ne (show ¬ 57 + 1 = 57 by decide), up_ne (show ¬ 57 + 1 = 57 by decide), up_ne (show ¬ 57 + 2 = 57 by decide), up_ne (show ¬ 57 + 2 = 57 by decide), up_ne (show ¬ 57 + 3 = 57 by decide), up_ne (show ¬ 57 + 3 = 57 by decide), up_ne (show ¬ 57 + 4 = 57 by decide), up_ne (show ¬ 57 + 4 = 57 by decide)]
            exact tb_rf d3.2
  have hw := gw_6 (fr := fr) (Z := lz_0 fr)
  have b0 := bt_b (gw fr (lz_0 fr)) fr ([], 0, 0)
  have e0 : bt_n ([], 0, 0) = 0 := rfl
  exact run P.length 0 0 (lz_0 fr) _ M1 (by omega) (by omega) (by omega) hok0 l0_at (cd_pc k1 hd) s1 (pk_bok _ _ _ o0) (wr_len hf _ _ _ _ 0 0 hok0 l0_at hv (by rw [List.drop_zero]; omega) (Nat.le_refl _) (by omega) (by show fr + 2 + 46 * 0 ≤ 18 + 0; omega)) (px_cg hP (k1 _ (by omega) (by omega) (by omega)) (k1 _ (by omega) (by omega) (by omega))) fun M' kk pp => hk M' ((wk_of k1).tr kk) pp
end
