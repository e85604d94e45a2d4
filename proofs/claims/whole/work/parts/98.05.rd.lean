/-! read: the class's order of places -/
section
variable {I M M' : rl_M} {J : Nat → Nat → Int64} {r N n : Nat} {Q : mc_Q} {v : Int32} {a0 h w k y t st : Nat} {A : List Nat}
/-- the class's list of places -/
def ol3_is (M : rl_M) (A : List Nat) : Prop := ∀ k q, A[k]? = some q → M 73 k = Int32.ofNat q
def ol3_K (M M' : rl_M) : Prop := ∀ b, ¬ b = 73 → M' b = M b
theorem ol3_app {q : Nat} (h : ol3_is M A) : ol3_is (mc_up M 73 A.length (Int32.ofNat q)) (A ++ [q]) := by
  intro k a hk
  by_cases z : k < A.length
  · rw [List.getElem?_append_left z] at hk
    rw [up_nk (by omega)]
    exact h k a hk
  · have hlt := (List.getElem?_eq_some_iff.mp hk).1
    rw [List.length_append, List.length_singleton] at hlt
    have e : k = A.length := by omega
    subst e
    rw [List.getElem?_append_right (Nat.le_refl _), Nat.sub_self] at hk
    cases hk
    exact up_at
theorem cc_row3 {x3 x4 x5 : Int32} (hF : is_F a0) (hw : M a0 4 = Int32.ofNat w) (hw8 : w ≤ 8) (hy : y < 8) (hA : ol3_is M A) (hl : A.length + w ≤ 64)
    (hk : ∀ M' x7, ol3_K M M' → ol3_is M' (A ++ pr_w w y) → mc_WP (143, 54, [.ref a0, .ref 73, .int (Int32.ofNat (A ++ pr_w w y).length), .int x3, .int x4, .int x5, .int (Int32.ofNat y + x5), .int x7], [], (M', J, rf_w r, sh_w N, n), (0, 0)) Q) :
    mc_WP (143, 66, [.ref a0, .ref 73, .int (Int32.ofNat A.length), .int x3, .int x4, .int x5, .int (Int32.ofNat y), .int (Int32.ofNat 0)], [], (M, J, rf_w r, sh_w N, n), (0, 0)) Q := by
  have ha : a0 < 54 := by simp only [is_F, List.mem_cons, List.not_mem_nil, or_false] at hF; omega
  have hsh : sh_w N 73 = (2, 64) := rfl
  refine lp_go (C := fun k (i : rl_M) => (143, 66, [.ref a0, .ref 73, .int (Int32.ofNat (A.length + k)), .int x3, .int x4, .int x5, .int (Int32.ofNat y), .int (Int32.ofNat k)], [], (i, J, rf_w r, sh_w N, n), (0, 0))) (P := fun k i => ol3_K M i ∧ ol3_is i (A ++ pr_w k y)) w M ⟨fun _ _ => rfl, by unfold pr_w; rw [List.range_zero, List.map_nil, List.append_nil]; exact hA⟩ ?_ ?_
  · intro k hk' i ⟨i1, i2⟩ ih
    try dsimp only at ih ⊢
    refine bk_143_66 hF hsh (by decide) ?_
    rw [i1 a0 (by omega), hw, on_1, on_1, on_n (by omega), on_8]
    refine ⟨fun q => absurd ((on_le (by omega) (by omega)).mp q) (by omega), fun _ => ⟨on_vp (by omega) (by omega), ih _ ⟨fun b q => by rw [up_ne q]; exact i1 b q, ?_⟩⟩⟩
    have := ol3_app (q := 8 * y + k) i2
    rw [List.length_append, pr_len, List.append_assoc] at this
    unfold pr_w at this ⊢
    rw [List.range_succ, List.map_append]
    exact this
  · intro i ⟨i1, i2⟩
    try dsimp only
    refine bk_143_66 hF hsh (by decide) ?_
    rw [i1 a0 (by omega), hw]
    refine ⟨fun _ => ?_, fun q => absurd ((on_le (by omega) (by omega)).mpr (Nat.le_refl _)) q⟩
    have := hk i (Int32.ofNat w) i1 i2
    rw [List.length_append, pr_len] at this
    exact this
theorem cc_pass3 {x3 x4 : Int32} (hF : is_F a0) (hw : M a0 4 = Int32.ofNat w) (hh : M a0 5 = Int32.ofNat h) (hw8 : w ≤ 8) (hh8 : h ≤ 8) (hst : 1 ≤ st ∧ st ≤ 8) : ∀ t y (A : List Nat) (M1 : rl_M) (x7 : Value), h ≤ y + t → y < 100 → ol3_K M M1 → ol3_is M1 A → A.length + (cp_l h st t y).length * w ≤ 64 →
    (∀ M' x6 x7, ol3_K M M' → ol3_is M' (A ++ pw_l w (cp_l h st t y)) → mc_WP (143, 21, [.ref a0, .ref 73, .int (Int32.ofNat (A ++ pw_l w (cp_l h st t y)).length), .int x3, .int (x4 + 1), .int (Int32.ofNat st), .int x6, x7], [], (M', J, rf_w r, sh_w N, n), (0, 0)) Q) →
    mc_WP (143, 54, [.ref a0, .ref 73, .int (Int32.ofNat A.length), .int x3, .int x4, .int (Int32.ofNat st), .int (Int32.ofNat y), x7], [], (M1, J, rf_w r, sh_w N, n), (0, 0)) Q := by
  have ha : a0 < 54 := by simp only [is_F, List.mem_cons, List.not_mem_nil, or_false] at hF; omega
  have hsh : sh_w N 73 = (2, 64) := rfl
  intro t
  have stop : ∀ t y (A : List Nat) (M1 : rl_M) (x7 : Value), h ≤ y → y < 100 → ol3_K M M1 → ol3_is M1 A → cp_l h st t y = [] → 
    (∀ M' x6 x7, ol3_K M M' → ol3_is M' (A ++ pw_l w (cp_l h st t y)) → mc_WP (143, 21, [.ref a0, .ref 73, .int (Int32.ofNat (A ++ pw_l w (cp_l h st t y)).length), .int x3, .int (x4 + 1), .int (Int32.ofNat st), .int x6, x7], [], (M', J, rf_w r, sh_w N, n), (0, 0)) Q) →
    mc_WP (143, 54, [.ref a0, .ref 73, .int (Int32.ofNat A.length), .int x3, .int x4, .int (Int32.ofNat st), .int (Int32.ofNat y), x7], [], (M1, J, rf_w r, sh_w N, n), (0, 0)) Q := by
    intro t y A M1 x7 hy h100 k1 a1 e hk
    rw [e, show pw_l w [] = [] from rfl, List.append_nil] at hk
    refine bk_143_54 hF hsh ?_
    rw [k1 a0 (by omega), hh]
    exact ⟨fun _ => hk M1 _ _ k1 a1, fun q => absurd ((on_le (by omega) (by omega)).mpr hy) q⟩
  induction t with
  | zero => intro y A M1 x7 hy h100 k1 a1 hl hk; exact stop 0 y A M1 x7 (by omega) h100 k1 a1 rfl hk
  | succ t ih =>
    intro y A M1 x7 hy h100 k1 a1 hl hk
    by_cases q : h ≤ y
    · exact stop (t + 1) y A M1 x7 q h100 k1 a1 (by unfold cp_l; rw [if_pos q]) hk
    · have e : cp_l h st (t + 1) y = y :: cp_l h st t (y + st) := by
        show (if h ≤ y then [] else _) = _
        rw [if_neg q]
      rw [e] at hk hl
      rw [List.length_cons, Nat.succ_mul] at hl
      refine bk_143_54 hF hsh ?_
      rw [k1 a0 (by omega), hh]
      refine ⟨fun z => absurd ((on_le (by omega) (by omega)).mp z) (by omega), fun _ => ?_⟩
      refine cc_row3 hF (by rw [k1 a0 (by omega)]; exact hw) hw8 (by omega) a1 (by omega) fun M2 x7 k2 a2 => ?_
      rw [← Int32.ofNat_add]
      refine ih (y + st) (A ++ pr_w w y) M2 _ (by omega) (by omega) (fun b z => (k2 b z).trans (k1 b z)) a2 (by rw [List.length_append, pr_len]; omega) ?_
      intro M' x6 x7 k' a'
      have e2 : A ++ pw_l w (y :: cp_l h st t (y + st)) = A ++ pr_w w y ++ pw_l w (cp_l h st t (y + st)) := by
        unfold pw_l
        rw [List.flatMap_cons, List.append_assoc]
      rw [e2] at hk
      exact hk M' x6 x7 k' a'
/-- the class's order -/
theorem cc_order3 (hF : is_F a0) (hw : M a0 4 = Int32.ofNat w) (hh : M a0 5 = Int32.ofNat h) (hw8 : w ≤ 8) (hh8 : h ≤ 8) (h9 : M a0 9 = 0 ∨ M a0 9 = 1) (hK : ∀ a, 2 ≤ a → a ≤ 4 → M a = st_w a)
    (hk : ∀ M', ol3_K M M' → ol3_is M' (pw_l w (rw_l (M a0 9) h)) → Q (.inl (some (.int (Int32.ofNat (pw_l w (rw_l (M a0 9) h)).length)))) (M', J, rf_w r, sh_w N, n)) :
    mc_WP (mc_en 143 [.ref a0, .ref 73] (M, J, rf_w r, sh_w N, n)) Q := by
  have ha : a0 < 54 := by simp only [is_F, List.mem_cons, List.not_mem_nil, or_false] at hF; omega
  have hsh : sh_w N 73 = (2, 64) := rfl
  have hlen := rwo_ok hh8 h9
  have hmul : h * w ≤ 64 := Nat.le_trans (Nat.mul_le_mul hh8 hw8) (by decide)
  have l0 : ol3_is M [] := fun k q hq => absurd hq (by simp)
  refine bk_143_0 hF hsh ⟨fun q => ?_, fun q => ?_⟩
  · unfold rw_l at hk hlen
    rw [if_pos q] at hk hlen
    refine bk_143_21 hF hsh ⟨fun z => absurd z (by decide), fun _ => ⟨fun _ => ⟨by unfold vp_in; decide, ?_⟩, fun z => absurd q z⟩⟩
    rw [hK 2 (by decide) (by decide), show st_w 2 (0 : Int32).toNatClampNeg = Int32.ofNat 0 from rfl]
    refine cc_pass3 (A := []) (st := 1) hF hw hh hw8 hh8 (by decide) 8 0 M _ (by omega) (by omega) (fun _ _ => rfl) l0 (by rw [hlen.1]; show 0 + _ ≤ _; omega) ?_
    intro M' x6 x7 k' a'
    rw [List.nil_append] at a'
    refine bk_143_21 hF hsh ⟨fun _ => hk M' k' a', fun z => absurd (by decide) z⟩
  · unfold rw_l at hk hlen
    rw [if_neg q] at hk hlen
    rw [pw_app, pw_app, pw_app] at hk
    have hl4 := hlen.1
    rw [List.length_append, List.length_append, List.length_append] at hl4
    have hll : (cp_l h 8 8 0).length * w + (cp_l h 8 8 4).length * w + (cp_l h 4 8 2).length * w + (cp_l h 2 8 1).length * w ≤ 64 := by
      rw [← Nat.add_mul, ← Nat.add_mul, ← Nat.add_mul, hl4]; exact hmul
    refine bk_143_21 hF hsh ⟨fun z => absurd z (by decide), fun _ => ⟨fun z => absurd z q, fun _ => ⟨by unfold vp_in; decide, by unfold vp_in; decide, ?_⟩⟩⟩
    rw [hK 2 (by decide) (by decide), hK 3 (by decide) (by decide), show st_w 2 (0 : Int32).toNatClampNeg = Int32.ofNat 0 from rfl, show st_w 3 (0 : Int32).toNatClampNeg = Int32.ofNat 8 from rfl]
    refine cc_pass3 (A := []) hF hw hh hw8 hh8 (by decide) 8 0 M _ (by omega) (by omega) (fun _ _ => rfl) l0 (by show 0 + _ ≤ _; omega) ?_
    intro M1 x6 x7 k1 a1
    rw [List.nil_append] at a1 ⊢
    refine bk_143_21 hF hsh ⟨fun z => absurd z (by decide), fun _ => ⟨fun z => absurd z (by rw [k1 a0 (by omega)]; exact q), fun _ => ⟨by unfold vp_in; decide, by unfold vp_in; decide, ?_⟩⟩⟩
    rw [k1 2 (by omega), k1 3 (by omega), hK 2 (by decide) (by decide), hK 3 (by decide) (by decide), show st_w 2 ((0 : Int32) + 1).toNatClampNeg = Int32.ofNat 4 from rfl, show st_w 3 ((0 : Int32) + 1).toNatClampNeg = Int32.ofNat 8 from rfl]
    refine cc_pass3 hF hw hh hw8 hh8 (by decide) 8 4 _ M1 _ (by omega) (by omega) k1 a1 (by rw [pw_len]; omega) ?_
    intro M2 x6 x7 k2 a2
    refine bk_143_21 hF hsh ⟨fun z => absurd z (by decide), fun _ => ⟨fun z => absurd z (by rw [k2 a0 (by omega)]; exact q), fun _ => ⟨by unfold vp_in; decide, by unfold vp_in; decide, ?_⟩⟩⟩
    rw [k2 2 (by omega), k2 3 (by omega), hK 2 (by decide) (by decide), hK 3 (by decide) (by decide), show st_w 2 ((0 : Int32) + 1 + 1).toNatClampNeg = Int32.ofNat 2 from rfl, show st_w 3 ((0 : Int32) + 1 + 1).toNatClampNeg = Int32.ofNat 4 from rfl]
    refine cc_pass3 hF hw hh hw8 hh8 (by decide) 8 2 _ M2 _ (by omega) (by omega) k2 a2 (by rw [List.length_append, pw_len, pw_len]; omega) ?_
    intro M3 x6 x7 k3 a3
    refine bk_143_21 hF hsh ⟨fun z => absurd z (by decide), fun _ => ⟨fun z => absurd z (by rw [k3 a0 (by omega)]; exact q), fun _ => ⟨by unfold vp_in; decide, by unfold vp_in; decide, ?_⟩⟩⟩
    rw [k3 2 (by omega), k3 3 (by omega), hK 2 (by decide) (by decide), hK 3 (by decide) (by decide), show st_w 2 ((0 : Int32) + 1 + 1 + 1).toNatClampNeg = Int32.ofNat 1 from rfl, show st_w 3 ((0 : Int32) + 1 + 1 + 1).toNatClampNeg = Int32.ofNat 2 from rfl]
    refine cc_pass3 hF hw hh hw8 hh8 (by decide) 8 1 _ M3 _ (by omega) (by omega) k3 a3 (by rw [List.length_append, List.length_append, pw_len, pw_len, pw_len]; omega) ?_
    intro M4 x6 x7 k4 a4
    exact bk_143_21 hF hsh ⟨fun _ => hk M4 k4 a4, fun z => absurd (by decide) z⟩
theorem pw_nd : ∀ h : Fin 9, ∀ w : Fin 9, (pw_l w.1 (rw_l 0 h.1)).Nodup ∧ (pw_l w.1 (rw_l 1 h.1)).Nodup := by decide +kernel
theorem pw_nod (hh : h ≤ 8) (hw : w ≤ 8) (hv : v = 0 ∨ v = 1) : (pw_l w (rw_l v h)).Nodup := by
  obtain ⟨h1, h2⟩ := pw_nd ⟨h, by omega⟩ ⟨w, by omega⟩
  rcases hv with rfl | rfl
  · exact h1
  · exact h2
theorem rw_all : ∀ h : Fin 9, (∀ y, y < h.1 → y ∈ rw_l 0 h.1) ∧ (∀ y, y < h.1 → y ∈ rw_l 1 h.1) := by decide +kernel
/-- every place of a frame comes -/
theorem pw_at (hh : h ≤ 8) (hv : v = 0 ∨ v = 1) {x : Nat} (hy : y < h) (hx : x < w) : 8 * y + x ∈ pw_l w (rw_l v h) := by
  obtain ⟨h1, h2⟩ := rw_all ⟨h, by omega⟩
  have hm : y ∈ rw_l v h := by
    rcases hv with rfl | rfl
    · exact h1 y hy
    · exact h2 y hy
  unfold pw_l
  refine List.mem_flatMap.mpr ⟨y, hm, ?_⟩
  unfold pr_w
  exact List.mem_map.mpr ⟨x, List.mem_range.mpr hx, rfl⟩
end
