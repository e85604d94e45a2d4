/-! reduce: the class's boxes -/
section
variable {I M : rl_M} {J : Nat → Nat → Int64} {r N n : Nat} {Q : mc_Q} {L l : List rd_T} {c : Int32} {s m p b d nb : Nat} {bx : Nat → List rd_T}
def sg_l (M : rl_M) (s m : Nat) : List rd_T := (List.range m).map fun j => (M 77 (s + j), M 78 (s + j))
theorem sg_s : sg_l M s (m + 1) = sg_l M s m ++ [(M 77 (s + m), M 78 (s + m))] := by
  unfold sg_l
  rw [List.range_succ, List.map_append]
  rfl
theorem sg_len : (sg_l M s m).length = m := by
  unfold sg_l
  rw [List.length_map, List.length_range]
theorem sg_at {j : Nat} (h : j < m) : (sg_l M s m)[j]? = some (M 77 (s + j), M 78 (s + j)) := by
  unfold sg_l
  rw [List.getElem?_map, List.getElem?_range h]
  rfl
theorem sg_mem {j : Nat} (h : j < m) : (M 77 (s + j), M 78 (s + j)) ∈ sg_l M s m := List.mem_of_getElem? (sg_at h)
theorem sg_pw {R : rd_T → rd_T → Prop} : (sg_l M s m).Pairwise R ↔ ∀ i j, i < j → j < m → R (M 77 (s + i), M 78 (s + i)) (M 77 (s + j), M 78 (s + j)) := by
  rw [List.pairwise_iff_getElem]
  constructor
  · intro h i j hij hj
    have := h i j (by rw [sg_len]; omega) (by rw [sg_len]; omega) hij
    unfold sg_l at this
    simpa using this
  · intro h i j hi hj hij
    simp only [sg_l, List.getElem_map, List.getElem_range]
    rw [sg_len] at hj
    exact h i j hij hj
theorem sg_eq {M' : rl_M} (h : ∀ j, j < m → M' 77 (s + j) = M 77 (s + j) ∧ M' 78 (s + j) = M 78 (s + j)) : sg_l M' s m = sg_l M s m := by
  unfold sg_l
  refine List.map_congr_left fun j hj => ?_
  rw [(h j (List.mem_range.mp hj)).1, (h j (List.mem_range.mp hj)).2]
/-- a box at its place -/
def bx_at (M : rl_M) (b s m : Nat) : Prop := M 79 b = Int32.ofNat s ∧ M 80 b = Int32.ofNat (s + m) ∧ s + m ≤ 64 ∧ 1 ≤ m
theorem cc_spread (hb : b < 16) (hp : p < 3) (hB : bx_at M b s m) (hk : ∀ v : Int32, v.toInt = sr_l p (sg_l M s m) → Q (.inl (some (.int v))) (M, J, rf_w r, sh_w N, n)) :
    mc_WP (mc_en 174 [.ref 76, .int (Int32.ofNat b), .int (Int32.ofNat p)] (M, J, rf_w r, sh_w N, n)) Q := by
  obtain ⟨h1, h2, h3, h4⟩ := hB
  have hv : vp_in (Int32.ofNat b) 16 := on_vp (by omega) hb
  refine bk_174_0 ⟨hv, ?_⟩
  rw [on_n (by omega), h1]
  refine lp_go (C := fun j (i : Int32 × Int32 × Value) => (174, 15, [.ref 76, .int (Int32.ofNat b), .int (Int32.ofNat p), .int i.1, .int i.2.1, .int (Int32.ofNat (s + j)), i.2.2], [], (M, J, rf_w r, sh_w N, n), (0, 0))) (P := fun j i => i.1.toInt = min 255 (mn_l p (sg_l M s j)) ∧ i.2.1.toInt = max 0 (mx_l p (sg_l M s j))) m ((255 : Int32), (0 : Int32), .null) ⟨by show (255 : Int32).toInt = min 255 256; rfl, by show (0 : Int32).toInt = max 0 (-1); rfl⟩ ?_ ?_
  · intro j hj ⟨lo, hi, z⟩ ⟨q1, q2⟩ next
    dsimp only at q1 q2 next ⊢
    refine bk_174_15 ⟨hv, ?_⟩
    rw [on_n (k := b) (by omega), h2, on_n (by omega), on_1]
    have hb' := pt_b (M 77 (s + j)) (Int32.ofNat p)
    have e : pt_I p (M 77 (s + j), M 78 (s + j)) = (pt_v (M 77 (s + j)) (Int32.ofNat p)).toInt := rfl
    refine ⟨fun q => absurd ((on_le (by omega) (by omega)).mp q) (by omega), fun _ => ⟨on_vp (by omega) (by omega), ?_⟩⟩
    refine next (_, _, _) ⟨?_, ?_⟩
    · dsimp only
      rw [sg_s, mn_snoc, e]
      show (if pt_v (M 77 (s + j)) (Int32.ofNat p) < lo then pt_v (M 77 (s + j)) (Int32.ofNat p) else lo).toInt = _
      split
      · rename_i q; rw [Int32.lt_iff_toInt_lt] at q; omega
      · rename_i q; rw [Int32.lt_iff_toInt_lt] at q; omega
    · dsimp only
      rw [sg_s, mx_snoc, e]
      show (if hi < pt_v (M 77 (s + j)) (Int32.ofNat p) then pt_v (M 77 (s + j)) (Int32.ofNat p) else hi).toInt = _
      split
      · rename_i q; rw [Int32.lt_iff_toInt_lt] at q; omega
      · rename_i q; rw [Int32.lt_iff_toInt_lt] at q; omega
  · intro ⟨lo, hi, z⟩ ⟨q1, q2⟩
    dsimp only at q1 q2 ⊢
    refine bk_174_15 ⟨hv, ?_⟩
    rw [on_n (k := b) (by omega), h2]
    refine ⟨fun _ => hk _ ?_, fun q => absurd ((on_le (by omega) (by omega)).mpr (Nat.le_refl _)) q⟩
    have hne : sg_l M s m ≠ [] := fun q => by have := sg_len (M := M) (s := s) (m := m); rw [q] at this; simp at this; omega
    obtain ⟨a, a1, a2⟩ := mx_at (p := p) hne
    obtain ⟨c, c1, c2⟩ := mn_at (p := p) hne
    have ba := pt_Ib p a
    have bc := pt_Ib p c
    unfold sr_l
    rw [Int32.toInt_sub, Int.bmod_def]
    omega
theorem cc_wpart (hb : b < 16) (hB : bx_at M b s m) (hk : Q (.inl (some (.int (Int32.ofNat (wp_l (sg_l M s m)))))) (M, J, rf_w r, sh_w N, n)) :
    mc_WP (mc_en 173 [.ref 76, .int (Int32.ofNat b)] (M, J, rf_w r, sh_w N, n)) Q := by
  refine bk_173_0 ?_
  have last : ∀ w : Nat, w < 3 → w = wp_l (sg_l M s m) → mc_WP (173, 4, [.ref 76, .int (Int32.ofNat b), .int (Int32.ofNat w), .int 3], [], (M, J, rf_w r, sh_w N, n), (0, 0)) Q := fun w hw he => by
    refine bk_173_4 ⟨fun _ => ?_, fun q => absurd (show (3 : Int32) ≤ 3 by decide) q⟩
    rw [he]
    exact hk
  have second : ∀ w : Nat, w < 3 → (∀ z : Nat, z < 3 → (z = if sr_l w (sg_l M s m) < sr_l 2 (sg_l M s m) then 2 else w) → z = wp_l (sg_l M s m)) → mc_WP (173, 4, [.ref 76, .int (Int32.ofNat b), .int (Int32.ofNat w), .int 2], [], (M, J, rf_w r, sh_w N, n), (0, 0)) Q := fun w hw he => by
    refine bk_173_4 ⟨fun q => absurd q (by decide), fun _ => mc_inl ?_⟩
    refine cc_spread (p := 2) hb (by decide) hB fun v hv => bk_173_15 (mc_inl ?_)
    refine cc_spread (p := w) hb hw hB fun v' hv' => bk_173_21 ⟨fun q => last w hw (he w hw ?_), fun q => last 2 (by decide) (he 2 (by decide) ?_)⟩
    · rw [Int32.le_iff_toInt_le] at q; rw [if_neg (by omega)]
    · rw [Int32.le_iff_toInt_le] at q; rw [if_pos (by omega)]
  refine bk_173_4 ⟨fun q => absurd q (by decide), fun _ => mc_inl ?_⟩
  refine cc_spread (p := 1) hb (by decide) hB fun v hv => bk_173_15 (mc_inl ?_)
  refine cc_spread (p := 0) hb (by decide) hB fun v' hv' => bk_173_21 ⟨fun q => second 0 (by decide) fun z hz e => ?_, fun q => second 1 (by decide) fun z hz e => ?_⟩
  · rw [Int32.le_iff_toInt_le] at q; unfold wp_l; rw [if_neg (by omega)]; exact e
  · rw [Int32.le_iff_toInt_le] at q; unfold wp_l; rw [if_pos (by omega)]; exact e
def wb_l (f : Nat → Int) : Nat → Nat
  | 0 => 0
  | k + 1 => if f (wb_l f k) < f k then k else wb_l f k
theorem wb_lt (f : Nat → Int) : ∀ k, 1 ≤ k → wb_l f k < k
  | 1, _ => by
    show (if f 0 < f 0 then 0 else 0) < 1
    split <;> exact Nat.zero_lt_one
  | k + 2, _ => by
    have := wb_lt f (k + 1) (by omega)
    unfold wb_l
    split <;> omega
theorem wb_eq {f g : Nat → Int} : ∀ k, (∀ j, j < k → f j = g j) → wb_l f k = wb_l g k
  | 0, _ => rfl
  | 1, h => by unfold wb_l; show (if f 0 < f 0 then _ else _) = (if g 0 < g 0 then _ else _); rw [if_neg (by omega), if_neg (by omega)]; rfl
  | k + 2, h => by
    have ih := wb_eq (k + 1) (fun j hj => h j (by omega))
    have hlt := wb_lt f (k + 1) (by omega)
    unfold wb_l
    rw [h (k + 1) (by omega), h _ (by omega), ih]
theorem wb_ge (f : Nat → Int) : ∀ k j, j < k → f j ≤ f (wb_l f k)
  | 0, _, h => absurd h (by omega)
  | k + 1, j, h => by
    have ih := wb_ge f k j
    unfold wb_l
    split
    · by_cases q : j < k
      · have := ih q; omega
      · have : j = k := by omega
        subst this; omega
    · by_cases q : j < k
      · exact ih q
      · have : j = k := by omega
        subst this; omega
/-- all boxes at their places -/
def cb_is (M : rl_M) (nb : Nat) (bx : Nat → List rd_T) : Prop := M 76 9 = Int32.ofNat nb ∧ (1 ≤ nb ∧ nb ≤ 16) ∧ ∃ st ln : Nat → Nat, (∀ b, b < nb → bx_at M b (st b) (ln b) ∧ sg_l M (st b) (ln b) = bx b) ∧ ∀ b c, b < nb → c < nb → ¬ b = c → st b + ln b ≤ st c ∨ st c + ln c ≤ st b
theorem cc_wbox (h : cb_is M nb bx) (hk : Q (.inl (some (.int (Int32.ofNat (wb_l (fun b => ws_l (bx b)) nb))))) (M, J, rf_w r, sh_w N, n)) :
    mc_WP (mc_en 172 [.ref 76] (M, J, rf_w r, sh_w N, n)) Q := by
  obtain ⟨h1, h2, st, ln, h3, -⟩ := h
  refine bk_172_0 ?_
  let f : Nat → Int := fun b => ws_l (bx b)
  have hf1 : wb_l f 1 = 0 := by unfold wb_l; split <;> rfl
  have start : mc_WP (172, 4, [.ref 76, .int (Int32.ofNat (wb_l f (1 + 0))), .int (Int32.ofNat (1 + 0))], [], (M, J, rf_w r, sh_w N, n), (0, 0)) Q := by
    refine lp_go (C := fun k (_ : Unit) => (172, 4, [.ref 76, .int (Int32.ofNat (wb_l f (1 + k))), .int (Int32.ofNat (1 + k))], [], (M, J, rf_w r, sh_w N, n), (0, 0))) (P := fun _ _ => True) (nb - 1) () trivial ?_ ?_
    · intro k hk' _ _ next
      have nx := next () trivial
      have hlt := wb_lt f (1 + k) (by omega)
      refine bk_172_4 ?_
      rw [h1]
      refine ⟨fun q => absurd ((on_le (by omega) (by omega)).mp q) (by omega), fun _ => mc_inl ?_⟩
      obtain ⟨b1, b2⟩ := h3 (1 + k) (by omega)
      obtain ⟨c1, c2⟩ := h3 (wb_l f (1 + k)) (by omega)
      refine cc_wpart (by omega) b1 (bk_172_19 (mc_inl ?_))
      refine cc_spread (by omega) (wp_3 _) b1 fun v hv => bk_172_22 (mc_inl ?_)
      refine cc_wpart (by omega) c1 (bk_172_29 (mc_inl ?_))
      refine cc_spread (by omega) (wp_3 _) c1 fun v' hv' => bk_172_32 ?_
      rw [b2] at hv
      rw [c2] at hv'
      have e1 : v.toInt = f (1 + k) := hv
      have e2 : v'.toInt = f (wb_l f (1 + k)) := hv'
      rw [on_1, Int32.le_iff_toInt_le, e1, e2]
      have e3 : wb_l f (1 + (k + 1)) = if f (wb_l f (1 + k)) < f (1 + k) then 1 + k else wb_l f (1 + k) := rfl
      rw [e3] at nx
      refine ⟨fun q => ?_, fun q => ?_⟩
      · rw [if_neg (by omega)] at nx; exact nx
      · rw [if_pos (by omega)] at nx; exact nx
    · intro _ _
      refine bk_172_4 ?_
      rw [h1, show 1 + (nb - 1) = nb by omega]
      exact ⟨fun _ => hk, fun q => absurd ((on_le (by omega) (by omega)).mpr (Nat.le_refl _)) q⟩
  rw [show 1 + 0 = 1 from rfl, hf1] at start
  exact start
end
