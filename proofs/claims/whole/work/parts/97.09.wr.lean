/-! write: all the codes of a picture: pure -/
section
variable {fr b c e k t w d ρ : Nat} {Z : lz_Z} {R : List Int32} {x : Int32} {s : List Int32 × Nat × Nat}
theorem gd_ex (h : lz_ok fr Z) : ∀ d c, va_c fr Z c → Z.2.2.1 c <+: R → R.length ≤ (Z.2.2.1 c).length + d → ∃ c, gd_c fr Z R c
  | d, c, hc, hp, hl => by
    by_cases q : ∀ c', va_c fr Z c' → Z.2.2.1 c' <+: R → (Z.2.2.1 c').length ≤ (Z.2.2.1 c).length
    · exact ⟨c, hc, hp, q⟩
    · simp only [Classical.not_forall] at q
      obtain ⟨c', h1, h2, h3⟩ := q
      have hl' := h2.length_le
      match d, hl with
      | 0, hl => exact absurd hl (by omega)
      | d + 1, hl => exact gd_ex h d c' h1 h2 (by omega)
theorem gd_x (h : lz_ok fr Z) (hx : c < fr) (he : x = Int32.ofNat c) : ∃ c, gd_c fr Z (x :: R) c := by
  refine gd_ex h (x :: R).length c (Or.inl hx) ?_ (by omega)
  rw [h.2.1 c hx, he]
  exact ⟨R, rfl⟩
noncomputable def gd_f (fr : Nat) (Z : lz_Z) (R : List Int32) : Nat := Classical.epsilon (gd_c fr Z R)
theorem gd_fe (h : lz_ok fr Z) (hg : gd_c fr Z R c) : gd_f fr Z R = c := gd_un h (Classical.epsilon_spec ⟨c, hg⟩) hg
def gw (fr : Nat) (Z : lz_Z) : Nat := wd_n (gr_v (fr + 1) Z.1 Z.2.1)
theorem gw_6 : gw fr Z ≤ 6 := wd_6 _
theorem gr_64 (h : fr ≤ 16) : gr_v (fr + 1) Z.1 Z.2.1 < 64 := by unfold gr_v; repeat' split <;> try omega
noncomputable def wr_f (fr : Nat) : Nat → lz_Z → List Int32 → (List Int32 × Nat × Nat) → (List Int32 × Nat × Nat)
  | 0, Z, _, s => pk_b s (fr + 1) (gw fr Z)
  | t + 1, Z, R, s => match R with
    | [] => pk_b s (fr + 1) (gw fr Z)
    | x :: R' => if (lz_nw Z x).1 = 64 ∧ (x :: R').drop ((lz_nw Z x).2.2.1 (gd_f fr (lz_nw Z x) (x :: R'))).length ≠ []
        then wr_f fr t (lz_rf fr (lz_nw Z x)) ((x :: R').drop ((lz_nw Z x).2.2.1 (gd_f fr (lz_nw Z x) (x :: R'))).length) (pk_b (pk_b s (gd_f fr (lz_nw Z x) (x :: R')) (gw fr Z)) fr (gw fr (lz_bf (lz_nw Z x) (gd_f fr (lz_nw Z x) (x :: R')))))
        else wr_f fr t (lz_bf (lz_nw Z x) (gd_f fr (lz_nw Z x) (x :: R'))) ((x :: R').drop ((lz_nw Z x).2.2.1 (gd_f fr (lz_nw Z x) (x :: R'))).length) (pk_b s (gd_f fr (lz_nw Z x) (x :: R')) (gw fr Z))
theorem wr_nil : wr_f fr t Z [] s = pk_b s (fr + 1) (gw fr Z) := by cases t <;> rfl
theorem wr_rf (h : lz_ok fr (lz_nw Z x)) (hg : gd_c fr (lz_nw Z x) (x :: R) c) (h1 : (lz_nw Z x).1 = 64) (h2 : (x :: R).drop ((lz_nw Z x).2.2.1 c).length ≠ []) : wr_f fr (t + 1) Z (x :: R) s = wr_f fr t (lz_rf fr (lz_nw Z x)) ((x :: R).drop ((lz_nw Z x).2.2.1 c).length) (pk_b (pk_b s c (gw fr Z)) fr (gw fr (lz_bf (lz_nw Z x) c))) := by
  have e := gd_fe h hg
  show (if _ then _ else _) = _
  rw [e, if_pos ⟨h1, h2⟩]
theorem wr_go (h : lz_ok fr (lz_nw Z x)) (hg : gd_c fr (lz_nw Z x) (x :: R) c) (h1 : ¬ ((lz_nw Z x).1 = 64 ∧ (x :: R).drop ((lz_nw Z x).2.2.1 c).length ≠ [])) : wr_f fr (t + 1) Z (x :: R) s = wr_f fr t (lz_bf (lz_nw Z x) c) ((x :: R).drop ((lz_nw Z x).2.2.1 c).length) (pk_b s c (gw fr Z)) := by
  have e := gd_fe h hg
  show (if _ then _ else _) = _
  rw [e, if_neg h1]
/-- how many bits -/
def bt_n (s : List Int32 × Nat × Nat) : Nat := 8 * s.1.length + s.2.2
theorem bt_b : ∀ (w c : Nat) (s : List Int32 × Nat × Nat), bt_n (pk_b s c w) = bt_n s + w
  | 0, _, _ => rfl
  | w + 1, c, s => by
    show bt_n (pk_b (pk_1 s (c % 2)) (c / 2) w) = _
    rw [bt_b w]
    have := (pk_len1 s (c % 2)).2
    unfold bt_n
    omega
theorem pk_bok : ∀ (w c : Nat) (s : List Int32 × Nat × Nat), pk_ok s → pk_ok (pk_b s c w)
  | 0, _, _, h => h
  | w + 1, c, s, h => pk_bok w (c / 2) _ (pk_ok1 h (Nat.mod_lt _ (by decide)))
theorem wr_mono : ∀ (t : Nat) (Z : lz_Z) (R : List Int32) (s : List Int32 × Nat × Nat), bt_n s ≤ bt_n (wr_f fr t Z R s)
  | 0, Z, R, s => by show bt_n s ≤ bt_n (pk_b _ _ _); rw [bt_b]; omega
  | t + 1, Z, [], s => by show bt_n s ≤ bt_n (pk_b _ _ _); rw [bt_b]; omega
  | t + 1, Z, x :: R, s => by
    show _ ≤ bt_n (if _ then _ else _)
    split
    · refine Nat.le_trans ?_ (wr_mono t _ _ _)
      rw [bt_b, bt_b]; omega
    · refine Nat.le_trans ?_ (wr_mono t _ _ _)
      rw [bt_b]; omega
theorem wr_ok : ∀ (t : Nat) (Z : lz_Z) (R : List Int32) (s : List Int32 × Nat × Nat), pk_ok s → pk_ok (wr_f fr t Z R s)
  | 0, Z, R, s, h => pk_bok _ _ _ h
  | t + 1, Z, [], s, h => pk_bok _ _ _ h
  | t + 1, Z, x :: R, s, h => by
    show pk_ok (if _ then _ else _)
    split
    · exact wr_ok t _ _ _ (pk_bok _ _ _ (pk_bok _ _ _ h))
    · exact wr_ok t _ _ _ (pk_bok _ _ _ h)
theorem nw_1 : (lz_nw Z x).1 ≤ Z.1 + 1 := by unfold lz_nw; split <;> simp
theorem drop_lt (h : 1 ≤ d) : ((x :: R).drop d).length + 1 ≤ (x :: R).length := by rw [List.length_drop, List.length_cons]; omega
theorem wr_len (hf : fr ≤ 16) : ∀ (t : Nat) (Z : lz_Z) (R : List Int32) (s : List Int32 × Nat × Nat) (d ρ : Nat), lz_ok fr Z → lz_at fr Z R → (∀ a ∈ R, ∃ j, j < fr ∧ a = Int32.ofNat j) → d + R.length ≤ 64 → R.length ≤ t → bt_n s ≤ 6 * (1 + d + ρ) → Z.1 + 46 * ρ ≤ 18 + d → bt_n (wr_f fr t Z R s) ≤ 402 := by
  intro t
  have fin : ∀ (Z : lz_Z) (R : List Int32) (s : List Int32 × Nat × Nat) (d ρ : Nat), lz_ok fr Z → d ≤ 64 → bt_n s ≤ 6 * (1 + d + ρ) → Z.1 + 46 * ρ ≤ 18 + d → bt_n (pk_b s (fr + 1) (gw fr Z)) ≤ 402 := fun Z R s d ρ h h1 h2 h3 => by
    rw [bt_b]
    have := gw_6 (fr := fr) (Z := Z)
    have := h.1
    omega
  induction t with
  | zero => intro Z R s d ρ h ha hR hl ht hs hp; exact fin Z R s d ρ h (by omega) hs hp
  | succ t ih =>
    intro Z R s d ρ h ha hR hl ht hs hp
    match R with
    | [] => exact fin Z [] s d ρ h (by omega) hs hp
    | x :: R =>
      obtain ⟨j, j1, j2⟩ := hR x (List.mem_cons_self ..)
      have hok := nw_ok hf h ha
      obtain ⟨c, hg⟩ := gd_x (R := R) hok j1 j2
      obtain ⟨l1, l2⟩ := gd_b hok hg
      have w1 := gw_6 (fr := fr) (Z := Z)
      have w2 := gw_6 (fr := fr) (Z := lz_bf (lz_nw Z x) c)
      have n1 := nw_1 (Z := Z) (x := x)
      have hd : ((x :: R).drop ((lz_nw Z x).2.2.1 c).length).length = (x :: R).length - ((lz_nw Z x).2.2.1 c).length := List.length_drop
      have hm : ∀ a ∈ (x :: R).drop ((lz_nw Z x).2.2.1 c).length, ∃ j, j < fr ∧ a = Int32.ofNat j := fun a q => hR a (List.mem_of_mem_drop q)
      by_cases q : (lz_nw Z x).1 = 64 ∧ (x :: R).drop ((lz_nw Z x).2.2.1 c).length ≠ []
      · rw [wr_rf hok hg q.1 q.2]
        refine ih _ _ _ (d + ((lz_nw Z x).2.2.1 c).length) (ρ + 1) (rf_ok (by omega) hok) rf_at hm (by omega) (by omega) (by rw [bt_b, bt_b]; omega) ?_
        show fr + 2 + 46 * (ρ + 1) ≤ _
        omega
      · rw [wr_go hok hg q]
        refine ih _ _ _ (d + ((lz_nw Z x).2.2.1 c).length) ρ (bf_ok hok) (bf_at hok hg) hm (by omega) (by omega) (by rw [bt_b]; omega) ?_
        show (lz_nw Z x).1 + 46 * ρ ≤ _
        omega
end
