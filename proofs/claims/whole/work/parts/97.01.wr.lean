/-! write: bytes behind bytes -/
section
variable {I M M' : rl_M} {J : Nat → Nat → Int64} {r N n : Nat} {Q : mc_Q} {L : List Int32} {v c : Int32} {k b g w m f : Nat}
def oc_is (M : rl_M) (L : List Int32) : Prop := M 54 1 = Int32.ofNat L.length ∧ ∀ k a, L[k]? = some a → M 55 k = a
def om_is (M : rl_M) (L : List Int32) : Prop := M 84 10 = Int32.ofNat L.length ∧ ∀ k a, L[k]? = some a → M 91 k = a
/-- what an added byte leaves as it was -/
def oc_K (M M' : rl_M) : Prop := (∀ b, ¬ b = 54 → ¬ b = 55 → M' b = M b) ∧ ∀ k, ¬ k = 1 → M' 54 k = M 54 k
def om_K (M M' : rl_M) : Prop := (∀ b, ¬ b = 84 → ¬ b = 91 → M' b = M b) ∧ ∀ k, ¬ k = 10 → M' 84 k = M 84 k
theorem oc_K.rf : oc_K M M := ⟨fun _ _ _ => rfl, fun _ _ => rfl⟩
theorem om_K.rf : om_K M M := ⟨fun _ _ _ => rfl, fun _ _ => rfl⟩
theorem oc_K.tr {M2 : rl_M} (h : oc_K M M') (h2 : oc_K M' M2) : oc_K M M2 := ⟨fun b q1 q2 => (h2.1 b q1 q2).trans (h.1 b q1 q2), fun k q => (h2.2 k q).trans (h.2 k q)⟩
theorem om_K.tr {M2 : rl_M} (h : om_K M M') (h2 : om_K M' M2) : om_K M M2 := ⟨fun b q1 q2 => (h2.1 b q1 q2).trans (h.1 b q1 q2), fun k q => (h2.2 k q).trans (h.2 k q)⟩
theorem ob_app {row : rl_A} {row' : rl_A} (h : ∀ k a, L[k]? = some a → row k = a) (h1 : ∀ k, k < L.length → row' k = row k) (h2 : row' L.length = v) : ∀ k a, (L ++ [v])[k]? = some a → row' k = a := by
  intro k a hk
  by_cases q : k < L.length
  · rw [List.getElem?_append_left q] at hk
    rw [h1 k q]
    exact h k a hk
  · have hlt := (List.getElem?_eq_some_iff.mp hk).1
    rw [List.length_append, List.length_singleton] at hlt
    have e : k = L.length := by omega
    subst e
    rw [List.getElem?_append_right (Nat.le_refl _), Nat.sub_self] at hk
    cases hk
    exact h2
theorem cc_put (h : oc_is M L) (hl : L.length < 800) (hk : ∀ M', oc_K M M' → oc_is M' (L ++ [v]) → Q (.inl none) (M', J, rf_w r, sh_w N, n)) : mc_WP (mc_en 126 [.ref 54, .int v] (M, J, rf_w r, sh_w N, n)) Q := by
  obtain ⟨h1, h2⟩ := h
  refine bk_126_0 (by decide) ?_
  rw [h1, on_n (by omega)]
  refine ⟨fun q => absurd ((on_le (k := 800) (by omega) (by omega)).mp q) (by omega), fun _ => ⟨on_vp (by omega) hl, ?_⟩⟩
  rw [show (54 + 1 : Nat) = 55 from rfl, up_ne (show ¬ 54 = 55 by decide), h1, on_1]
  refine hk _ ⟨fun b q1 q2 => by rw [up_ne q1, up_ne q2], fun k q => by rw [up_nk q, up_ne (by decide)]⟩ ⟨by rw [up_at, List.length_append]; rfl, ?_⟩
  refine ob_app h2 (fun k hk' => ?_) ?_
  · rw [up_ne (by decide), up_nk (by omega)]
  · rw [up_ne (by decide), up_at]
theorem cm_put (h : om_is M L) (hl : L.length < 800) (hk : ∀ M', om_K M M' → om_is M' (L ++ [v]) → Q (.inl none) (M', J, rf_w r, sh_w N, n)) : mc_WP (mc_en 81 [.ref 84, .int v] (M, J, rf_w r, sh_w N, n)) Q := by
  obtain ⟨h1, h2⟩ := h
  refine bk_81_0 ?_
  rw [h1, on_n (by omega), on_1]
  refine ⟨on_vp (by omega) hl, hk _ ⟨fun b q1 q2 => by rw [up_ne q1, up_ne q2], fun k q => by rw [up_nk q, up_ne (by decide)]⟩ ⟨by rw [up_at, List.length_append]; rfl, ?_⟩⟩
  refine ob_app h2 (fun k hk' => ?_) ?_
  · rw [up_ne (by decide), up_nk (by omega)]
  · rw [up_ne (by decide), up_at]
/-- the bytes of a palette -/
def pl_l (cs : Nat → Int32) : Nat → List Int32
  | 0 => []
  | k + 1 => pl_l cs k ++ [pt_v (cs k) 0] ++ [pt_v (cs k) 1] ++ [pt_v (cs k) 2]
theorem pl_len (cs : Nat → Int32) : ∀ k, (pl_l cs k).length = 3 * k
  | 0 => rfl
  | k + 1 => by
    unfold pl_l
    rw [List.length_append, List.length_append, List.length_append, pl_len cs k]
    show 3 * k + 1 + 1 + 1 = _
    omega
theorem pl_eq {c1 c2 : Nat → Int32} : ∀ k, (∀ j, j < k → c1 j = c2 j) → pl_l c1 k = pl_l c2 k
  | 0, _ => rfl
  | k + 1, h => by unfold pl_l; rw [pl_eq k (fun j hj => h j (by omega)), h k (by omega)]
theorem cc_pal {a1 : Nat} (hp : is_P a1) (h : oc_is M L) (hc : M a1 1 = Int32.ofNat k) (h16 : k ≤ 16) (hl : L.length + 3 * k ≤ 800)
    (hk : ∀ M', oc_K M M' → oc_is M' (L ++ pl_l (M (a1 + 1)) k) → Q (.inl none) (M', J, rf_w r, sh_w N, n)) : mc_WP (mc_en 145 [.ref 56, .ref a1] (M, J, rf_w r, sh_w N, n)) Q := by
  have hpn : a1 < 53 := by simp only [is_P, List.mem_cons, List.not_mem_nil, or_false] at hp; omega
  refine bk_145_0 hp ?_
  refine lp_go (C := fun i (z : rl_M × Value) => (145, 2, [.ref 56, .ref a1, .int (Int32.ofNat i), z.2], [], (z.1, J, rf_w r, sh_w N, n), (0, 0))) (P := fun i z => oc_K M z.1 ∧ oc_is z.1 (L ++ pl_l (M (a1 + 1)) i)) k (M, .null) ⟨oc_K.rf, by show oc_is M (L ++ []); rw [List.append_nil]; exact h⟩ ?_ ?_
  · intro i hi ⟨M1, z⟩ ⟨k1, o1⟩ next
    dsimp only at k1 o1 next ⊢
    have hn : ∀ b, b < 54 → M1 b = M b := fun b hb => k1.1 b (by omega) (by omega)
    refine bk_145_2 hp ?_
    rw [hn a1 (by omega), hc]
    refine ⟨fun q => absurd ((on_le (by omega) (by omega)).mp q) (by omega), fun _ => ?_⟩
    have hl0 : (L ++ pl_l (M (a1 + 1)) i).length = L.length + 3 * i := by rw [List.length_append, pl_len]
    have one : ∀ (p : Nat) (M2 : rl_M) (L2 : List Int32), p < 3 → oc_K M M2 → oc_is M2 L2 → L2.length < 800 → (∀ M3, oc_K M M3 → oc_is M3 (L2 ++ [pt_v (M (a1 + 1) i) (Int32.ofNat p)]) → mc_WP (145, 12, [.ref 56, .ref a1, .int (Int32.ofNat i), .int (Int32.ofNat (p + 1))], [], (M3, J, rf_w r, sh_w N, n), (0, 0)) Q) → mc_WP (145, 12, [.ref 56, .ref a1, .int (Int32.ofNat i), .int (Int32.ofNat p)], [], (M2, J, rf_w r, sh_w N, n), (0, 0)) Q := by
      intro p M2 L2 hp3 k2 o2 hl2 nx
      obtain ⟨o21, o22⟩ := o2
      refine bk_145_12 hp ⟨fun q => absurd ((on_le (k := 3) (by omega) (by omega)).mp q) (by omega), fun _ => ⟨on_vp (by omega) (by omega), ?_⟩⟩
      rw [o21, on_n (k := L2.length) (by omega), on_n (k := i) (by omega), on_1 (k := p), on_1 (k := L2.length), k2.1 (a1 + 1) (by omega) (by omega)]
      refine ⟨fun q => absurd ((on_le (k := 800) (by omega) (by omega)).mp q) (by omega), fun _ => ⟨on_vp (by omega) hl2, nx _ ⟨fun b q1 q2 => ?_, fun k q => ?_⟩ ⟨?_, ob_app o22 (fun k hk' => ?_) ?_⟩⟩⟩
      · rw [up_ne q1, up_ne q2]; exact k2.1 b q1 q2
      · rw [up_nk q, up_ne (by decide)]; exact k2.2 k q
      · rw [up_at, List.length_append]; rfl
      · rw [up_ne (by decide), up_nk (by omega)]
      · rw [up_ne (by decide), up_at]; rfl
    refine one 0 M1 _ (by decide) k1 o1 (by omega) fun M2 k2 o2 => ?_
    refine one 1 M2 _ (by decide) k2 o2 (by rw [List.length_append, List.length_singleton]; omega) fun M3 k3 o3 => ?_
    refine one 2 M3 _ (by decide) k3 o3 (by rw [List.length_append, List.length_append, List.length_singleton, List.length_singleton]; omega) fun M4 k4 o4 => ?_
    refine bk_145_12 hp ⟨fun _ => ?_, fun q => absurd (show (3 : Int32) ≤ Int32.ofNat 3 by decide) q⟩
    rw [on_1]
    refine next (M4, _) ⟨k4, ?_⟩
    show oc_is M4 (L ++ (pl_l (M (a1 + 1)) i ++ [pt_v (M (a1 + 1) i) 0] ++ [pt_v (M (a1 + 1) i) 1] ++ [pt_v (M (a1 + 1) i) 2]))
    rw [← List.append_assoc, ← List.append_assoc, ← List.append_assoc]
    exact o4
  · intro ⟨M1, z⟩ ⟨k1, o1⟩
    dsimp only at k1 o1 ⊢
    refine bk_145_2 hp ?_
    rw [k1.1 a1 (by omega) (by omega), hc]
    exact ⟨fun _ => hk M1 k1 o1, fun q => absurd ((on_le (by omega) (by omega)).mpr (Nat.le_refl _)) q⟩
theorem pt_mm {c : Int32} (h : 0 ≤ c.toInt ∧ c.toInt < 16777216) : c >>> ((16 : Int32) &&& 31) = pt_v c 0 ∧ c >>> ((8 : Int32) &&& 31) &&& (255 : Int32) = pt_v c 1 ∧ c &&& (255 : Int32) = pt_v c 2 := by
  have s16 := bn_shr c 16 16 (by decide) h.1
  rw [show (2 ^ 16 : Nat) = 65536 from rfl] at s16
  have s0 := bn_shr c 0 0 (by decide) h.1
  rw [show (2 ^ 0 : Nat) = 1 from rfl] at s0
  obtain ⟨e0, -, -⟩ := pt_0 h
  refine ⟨?_, rfl, ?_⟩
  · rw [← Int32.toInt_inj]
    show (c >>> (16 : Int32)).toInt = (pt_v c (Int32.ofNat 0)).toInt
    rw [e0, s16]
    rfl
  · have : c >>> (0 : Int32) = c := by rw [← Int32.toInt_inj, s0]; omega
    show c &&& (255 : Int32) = c >>> (0 : Int32) &&& (255 : Int32)
    rw [this]
theorem cm_pal {x1 : Int32} (hx : -1 ≤ x1.toInt ∧ x1.toInt < 4) (h : om_is M L) (hb : 1 ≤ (M 85 (9 * ow_g x1 + 4)).toInt ∧ (M 85 (9 * ow_g x1 + 4)).toInt ≤ 4) (hcnt : rl_cnt (M 85 (9 * ow_g x1 + 4)) = Int32.ofNat k) (h16 : k ≤ 16) (hcs : ∀ j, j < k → 0 ≤ (M 86 (16 * ow_g x1 + j)).toInt ∧ (M 86 (16 * ow_g x1 + j)).toInt < 16777216) (hl : L.length + 3 * k ≤ 800)
    (hk : ∀ M', om_K M M' → om_is M' (L ++ pl_l (fun j => M 86 (16 * ow_g x1 + j)) k) → Q (.inl none) (M', J, rf_w r, sh_w N, n)) : mc_WP (mc_en 82 [.ref 84, .int x1] (M, J, rf_w r, sh_w N, n)) Q := by
  have e := ix_9g (k := 4) hx (by decide)
  rw [show ((4 : Int32).toInt).toNat = 4 from rfl] at e
  have hsh : (1 : Int32) <<< (M 85 (9 * ow_g x1 + 4) &&& 31) = Int32.ofNat k := by
    have := (cnt_b (b := M 85 (9 * ow_g x1 + 4)) (by omega)).2.2.2 (fun z => by rw [z] at hb; exact absurd hb.1 (by decide))
    rw [← this.1]
    exact hcnt
  refine bk_82_0 ?_
  refine lp_go (C := fun i (z : rl_M × Value) => (82, 2, [.ref 84, .int x1, .int (Int32.ofNat i), z.2], [], (z.1, J, rf_w r, sh_w N, n), (0, 0))) (P := fun i z => om_K M z.1 ∧ om_is z.1 (L ++ pl_l (fun j => M 86 (16 * ow_g x1 + j)) i)) k (M, .null) ⟨om_K.rf, by show om_is M (L ++ []); rw [List.append_nil]; exact h⟩ ?_ ?_
  · intro i hi ⟨M1, z⟩ ⟨k1, o1⟩ next
    dsimp only at k1 o1 next ⊢
    have hl0 : (L ++ pl_l (fun j => M 86 (16 * ow_g x1 + j)) i).length = L.length + 3 * i := by rw [List.length_append, pl_len]
    have e6 := ix_16g (x1 := x1) (k := Int32.ofNat i) hx (by rw [on_t (by omega)]; omega)
    have it : (Int32.ofNat i).toInt.toNat = i := by rw [on_t (by omega)]; rfl
    rw [it] at e6
    obtain ⟨t0, t1, t2⟩ := pt_mm (hcs i hi)
    refine bk_82_2 ⟨e.2, ?_⟩
    rw [e.1, k1.1 85 (by decide) (by decide), hsh, e6.1, k1.1 86 (by decide) (by decide), t0]
    refine ⟨fun q => absurd ((on_le (by omega) (by omega)).mp q) (by omega), fun _ => ⟨e6.2, mc_inl ?_⟩⟩
    refine cm_put o1 (by omega) fun M2 k2 o2 => bk_82_43 (mc_inl ?_)
    rw [t1]
    refine cm_put o2 (by rw [List.length_append, List.length_singleton]; omega) fun M3 k3 o3 => bk_82_55 (mc_inl ?_)
    rw [t2]
    refine cm_put o3 (by rw [List.length_append, List.length_append, List.length_singleton, List.length_singleton]; omega) fun M4 k4 o4 => bk_82_64 ?_
    rw [on_1]
    refine next (M4, _) ⟨((k1.tr k2).tr k3).tr k4, ?_⟩
    show om_is M4 (L ++ (pl_l (fun j => M 86 (16 * ow_g x1 + j)) i ++ [pt_v (M 86 (16 * ow_g x1 + i)) 0] ++ [pt_v (M 86 (16 * ow_g x1 + i)) 1] ++ [pt_v (M 86 (16 * ow_g x1 + i)) 2]))
    rw [← List.append_assoc, ← List.append_assoc, ← List.append_assoc]
    exact o4
  · intro ⟨M1, z⟩ ⟨k1, o1⟩
    dsimp only at k1 o1 ⊢
    refine bk_82_2 ⟨e.2, ?_⟩
    rw [e.1, k1.1 85 (by decide) (by decide), hsh]
    exact ⟨fun _ => hk M1 k1 o1, fun q => absurd ((on_le (by omega) (by omega)).mpr (Nat.le_refl _)) q⟩
end
