/-! reduce: rows of pixels -/
section
variable {I M M' : rl_M} {J : Nat → Nat → Int64} {r N n : Nat} {Q : mc_Q} {mn : Nat → Int32} {c v mode a : Int32} {nb k b x y W H f a1 : Nat} {E O : rl_A}
def nu_w (mn : Nat → Int32) (nb : Nat) (mode : Int32) (E : rl_A) (c : Int32) (x y : Nat) : Nat := nr_i (wi_v mode E c x y 0) (wi_v mode E c x y 1) (wi_v mode E c x y 2) mn nb
def nu_b (mn : Nat → Int32) (nb : Nat) (mode : Int32) (E : rl_A) (c : Int32) (x y : Nat) : Int32 := if fs_v mn c nb 0 = -1 then Int32.ofNat (nu_w mn nb mode E c x y) else fs_v mn c nb 0
def nu_E (mn : Nat → Int32) (nb : Nat) (mode : Int32) (E : rl_A) (c : Int32) (x y : Nat) (a : Int) (W H : Nat) : rl_A := if fs_v mn c nb 0 = -1 ∧ mode = 2 then er_v E x y a (fun p => wi_v mode E c x y p - pt_v (mn (nu_w mn nb mode E c x y)) (Int32.ofNat p)) W H else E
theorem nu_bb (h : 1 ≤ nb ∧ nb ≤ 16) : ∃ j, j < nb ∧ nu_b mn nb mode E c x y = Int32.ofNat j := by
  unfold nu_b
  split
  · exact ⟨_, nr_lt h.1, rfl⟩
  · rename_i q
    rcases fs_b mn c nb 0 (by omega) with z | ⟨j, j1, j2⟩
    · exact absurd z q
    · exact ⟨j, by omega, j2⟩
theorem cm_number (hx : x < 8) (hy : y < 8) (hc : M 92 (8 * y + x) = c) (e2 : M 85 2 = Int32.ofNat W) (e3 : M 85 3 = Int32.ofNat H) (h8 : W ≤ 8 ∧ H ≤ 8) (hn : M 84 32 = Int32.ofNat nb) (h16 : 1 ≤ nb ∧ nb ≤ 16) (ha : a.toInt = 1 ∨ a.toInt = -1) (hE : ∀ k, k < 192 → M 104 k = E k) (hmd : mode = 0 ∨ mode = 1 ∨ mode = 2) (hE0 : ¬ mode = 2 → ∀ k, k < 192 → E k = 0)
    (hk : ∀ M', (∀ b, ¬ b = 104 → M' b = M b) → (∀ k, k < 192 → M' 104 k = nu_E (M 103) nb mode E c x y a.toInt W H k) → Q (.inl (some (.int (nu_b (M 103) nb mode E c x y)))) (M', J, rf_w r, sh_w N, n)) :
    mc_WP (mc_en 123 [.ref 84, .int (Int32.ofNat x), .int (Int32.ofNat y), .int mode, .int a] (M, J, rf_w r, sh_w N, n)) Q := by
  refine bk_123_0 ?_
  rw [on_8', on_n (by omega), hc]
  refine ⟨on_vp (by omega) (by omega), mc_inl ?_⟩
  refine cm_exact hn h16.2 (bk_123_19 ?_)
  have hfs := fs_b (M 103) c nb 0 (by omega)
  have hlt : fs_v (M 103) c nb 0 < 0 ↔ fs_v (M 103) c nb 0 = -1 := by
    rcases hfs with z | ⟨j, j1, j2⟩
    · rw [z]; exact ⟨fun _ => rfl, fun _ => by decide⟩
    · rw [j2, Int32.lt_iff_toInt_lt, on_t (by omega), i3_0, i3_ne, on_t (by omega)]
      omega
  refine ⟨fun q => ?_, fun q => ?_⟩
  · have q1 := hlt.mp q
    have eb : nu_b (M 103) nb mode E c x y = Int32.ofNat (nu_w (M 103) nb mode E c x y) := by unfold nu_b; rw [if_pos q1]
    rw [eb] at hk
    refine ⟨fun hm => ?_, fun hm => mc_inl ?_⟩
    · -- no error goes on
      have eE : nu_E (M 103) nb mode E c x y a.toInt W H = E := by unfold nu_E; rw [if_neg (fun z => hm z.2)]
      rw [eE] at hk
      have fin : ∀ mo : Int32, (∀ p, p < 3 → wi_v mode E c x y p = cl_v (pt_v c (Int32.ofNat p) + mo)) → mc_WP (123, 86, [.ref 84, .int (Int32.ofNat x), .int (Int32.ofNat y), .int mode, .int a, .int c, .int (fs_v (M 103) c nb 0), .null], [.int mo], (M, J, rf_w r, sh_w N, n), (0, 0)) Q := fun mo hmo => by
        refine bk_123_86 (mc_inl ?_)
        refine cm_bound ?_
        refine bk_123_101 (mc_inl ?_)
        refine cm_bound ?_
        refine bk_123_113 (mc_inl ?_)
        refine cm_bound ?_
        refine bk_123_125 (mc_inl ?_)
        refine cm_near hn h16 (cl_b _) (cl_b _) (cl_b _) (bk_123_128 ?_)
        have := hk M (fun _ _ => rfl) hE
        unfold nu_w at this
        rw [hmo 0 (by decide), hmo 1 (by decide), hmo 2 (by decide)] at this
        exact this
      have par : ∀ k, k < 8 → Int32.ofNat k - Int32.ofNat k / (2 : Int32) * (2 : Int32) = Int32.ofNat (k % 2) := fun k hk' => by
        rcases (show k = 0 ∨ k = 1 ∨ k = 2 ∨ k = 3 ∨ k = 4 ∨ k = 5 ∨ k = 6 ∨ k = 7 by omega) with rfl | rfl | rfl | rfl | rfl | rfl | rfl | rfl <;> rfl
      have z01 : ∀ k, ¬ Int32.ofNat (k % 2) = 0 ↔ k % 2 = 1 := fun k => by
        rcases (show k % 2 = 0 ∨ k % 2 = 1 by omega) with h | h <;> rw [h] <;> decide
      rw [par x hx, par y hy, z01, z01]
      refine ⟨fun h0 => ?_, fun h0 => fin 0 fun p hp => ?_⟩
      · have m1 : mode = 1 := by
          rcases hmd with z | z | z
          · exact absurd z h0
          · exact z
          · exact absurd z hm
        have tab : ∀ (i : Nat) (mo : Int32), 2 * (y % 2) + x % 2 = i → st_w 4 i = mo → ∀ p, p < 3 → wi_v mode E c x y p = cl_v (pt_v c (Int32.ofNat p) + mo) := fun i mo hi hmo p _ => by
          unfold wi_v mo_v
          rw [if_pos m1, hi, hmo]
        exact ⟨by decide, fun hx1 => ⟨by decide, fun hy1 => fin _ (tab 3 _ (by omega) rfl), fun hy1 => fin _ (tab 1 _ (by omega) rfl)⟩, fun hx1 => ⟨by decide, fun hy1 => fin _ (tab 2 _ (by omega) rfl), fun hy1 => fin _ (tab 0 _ (by omega) rfl)⟩⟩
      · have m0 := Classical.not_not.mp h0
        unfold wi_v mo_v
        rw [if_neg (by rw [m0]; decide), hE0 hm _ (by omega)]
        rfl
    · have m2 := Classical.not_not.mp hm
      subst m2
      refine cm_byErr hx hy hc e2 e3 h8 hn h16 ha hE fun M' h1 h2 => bk_123_42 ?_
      refine hk M' h1 fun k hk' => ?_
      rw [h2 k hk']
      unfold nu_E
      rw [if_pos ⟨q1, rfl⟩]
      rfl
  · have q1 : ¬ fs_v (M 103) c nb 0 = -1 := fun z => q (hlt.mpr z)
    have eb : nu_b (M 103) nb mode E c x y = fs_v (M 103) c nb 0 := by unfold nu_b; rw [if_neg q1]
    have eE : nu_E (M 103) nb mode E c x y a.toInt W H = E := by unfold nu_E; rw [if_neg (fun z => q1 z.1)]
    rw [eb, eE] at hk
    exact hk M (fun _ _ => rfl) hE
end
