section
variable {I M M' : rl_M} {J : Nat → Nat → Int64} {r N n : Nat} {Q : mc_Q} {L l s : List rd_T} {c v x u : Int32} {m p b d nb k i w m0 : Nat} {bx : Nat → List rd_T}
def sl_P (M0 : rl_M) (d : Nat) (v : Int32) (s : List rd_T) (m : Nat) (M' : rl_M) : Prop := (∀ b, ¬ b = 102 → M' b = M0 b) ∧ (fl_l M' d v).Perm (s.drop m) ∧ (fl_l M' d 100).Perm (s.take m) ∧ ∀ k, k < d → M' 102 k = M0 102 k ∨ (M' 102 k = 100 ∧ M0 102 k = v)
theorem cm_select {x2 : Int32} (hd : M 84 28 = Int32.ofNat d) (h64 : d ≤ 64) (hp : p < 3) (hv : ¬ (100 : Int32) = v) (hG : rd_G s) (hS : so_l p s) (hB : bd_is s m0)
    (hk : ∀ M' x6 x7 z9 z10, sl_P M d v s m0 M' → mc_WP (116, 322, [.ref 84, .int v, .int x2, .int (Int32.ofNat p), .int (sm_l Prod.snd s), .int (Int32.ofNat s.length), .int x6, .int x7, .int 0, z9, z10], [], (M', J, rf_w r, sh_w N, n), (0, 0)) Q) :
    ∀ (rem m : Nat) (M' : rl_M) (z8 z9 z10 : Value), m + rem = m0 → sl_P M d v s m M' → mc_WP (116, 149, [.ref 84, .int v, .int x2, .int (Int32.ofNat p), .int (sm_l Prod.snd s), .int (Int32.ofNat s.length), .int (sm_l Prod.snd (s.take m)), .int (Int32.ofNat m), z8, z9, z10], [], (M', J, rf_w r, sh_w N, n), (0, 0)) Q
  | 0, m, M', z8, z9, z10, hm, hP => by
    have e : m = m0 := by omega
    subst e
    have hlen := (sm_t (fun a ha => (hG.2.1 a ha).2) hG.2.2.2).2
    have hle := hG.2.2.2
    have hb1 := hB.1
    refine bk_116_149 ?_
    rw [show (1 : Int32) = Int32.ofNat 1 from rfl, on_sub (by omega), on_le (by omega) (by omega)]
    refine ⟨fun _ => hk M' _ _ _ _ hP, fun q => ⟨fun _ => hk M' _ _ _ _ hP, fun q2 => ?_⟩⟩
    rcases hB.2.2 with z | z
    · omega
    · rw [Int32.le_iff_toInt_le] at q
      rw [Int32.lt_iff_toInt_lt] at z
      omega
  | rem + 1, m, M', z8, z9, z10, hm, hP => by
    obtain ⟨p1, p2, p3, p4⟩ := id hP
    have hsm := sm_t (fun a ha => (hG.2.1 a ha).2) hG.2.2.2
    have hle := hG.2.2.2
    have hb := hB.1
    have hms : m < s.length := by omega
    have d1 : M' 84 28 = Int32.ofNat d := by rw [p1 84 (by decide)]; exact hd
    have hdr : s.drop m = s[m] :: s.drop (m + 1) := List.drop_eq_getElem_cons hms
    have hmem : ∀ a, a ∈ fl_l M' d v ↔ a ∈ s.drop m := fun a => p2.mem_iff
    have hcol : ∀ k, k < d → M' 102 k = v → (M' 100 k, M' 101 k) ∈ s.drop m := fun k h1 h2 => (hmem _).mp (fl_mem.mpr ⟨k, h1, h2, rfl⟩)
    have hsr : ∀ a, a ∈ s.drop (m + 1) → ky_v p (s[m]).1 < ky_v p a.1 := fun a ha => by
      have h1 : (s[m] :: s.drop (m + 1)).Pairwise (fun a b => ky_v p a.1 < ky_v p b.1) := by
        rw [← hdr]
        exact List.Pairwise.sublist (List.drop_sublist m s) hS
      exact (List.pairwise_cons.mp h1).1 a ha
    obtain ⟨j, j1, j2, j3⟩ := fl_mem.mp ((hmem s[m]).mpr (by rw [hdr]; exact List.mem_cons_self))
    refine bk_116_149 ?_
    rw [show (1 : Int32) = Int32.ofNat 1 from rfl, on_sub (by omega), on_le (by omega) (by omega)]
    refine ⟨fun q => absurd q ?_, fun _ => ⟨fun q => absurd q (by omega), fun _ => ?_⟩⟩
    · by_cases h0 : m = 0
      · subst h0
        show ¬ sm_l Prod.snd s ≤ (2 : Int32) * 0
        rw [show (2 : Int32) * 0 = 0 from rfl, Int32.le_iff_toInt_le, hsm.1, i3_0]
        omega
      · have := hB.2.1 m (by omega) (by omega)
        rw [Int32.lt_iff_toInt_lt] at this
        rw [Int32.le_iff_toInt_le]
        omega
    · refine cm_best d1 h64 hp (fun k h1 h2 => (hG.2.1 _ (List.mem_of_mem_drop (hcol k h1 h2))).1) ⟨j, j1, j2⟩ fun i z9 z10 i1 i2 i3 => ?_
      -- the smallest is the next of the row
      have hi := hcol i i1 i2
      have hie : (M' 100 i, M' 101 i) = s[m] := by
        rw [hdr] at hi
        rcases List.mem_cons.mp hi with q | q
        · exact q
        · have h1 := hsr _ q
          have h2 := i3 j j1 j2
          rw [show M' 100 j = (s[m]).1 by rw [j3]] at h2
          have h1' : ky_v p (s[m]).1 < ky_v p (M' 100 i) := h1
          omega
      obtain ⟨u1, u2⟩ := (fl_up (M := M') (i := i) hv i2 d).1 i1
      have e101 : M' 101 i = (s[m]).2 := by rw [← hie]
      have etk : s.take (m + 1) = s.take m ++ [s[m]] := List.take_succ_eq_append_getElem hms
      rw [on_1, e101]
      have := cm_select hd h64 hp hv hG hS hB hk rem (m + 1) (mc_up M' 102 i 100) (.int (Int32.ofNat i)) z9 z10 (by omega) ⟨fun b hb => (up_ne hb).trans (p1 b hb), ?_, ?_, fun k hk' => ?_⟩
      · rw [etk, sm_snoc] at this
        exact this
      · have h1 := u1.symm.trans p2
        rw [hie, hdr] at h1
        exact h1.cons_inv
      · rw [etk]
        refine u2.trans ?_
        rw [hie]
        exact (List.Perm.cons _ p3).trans (List.perm_append_singleton _ _).symm
      · by_cases q : k = i
        · subst q
          rw [up_at]
          refine Or.inr ⟨rfl, ?_⟩
          rcases p4 k hk' with z | z
          · rw [← z]; exact i2
          · exact z.2
        · rw [up_nk q]
          exact p4 k hk'
theorem cm_partOne (h : mb_is M d nb bx) (hG : ∀ b, b < nb → rd_G (bx b)) (hn : nb < 16) (hs1 : s.Perm (bx (rd_w bx nb))) (hs2 : so_l (wp_l (bx (rd_w bx nb))) s) (hs3 : bd_is s m0) (hws : ¬ ws_l (bx (rd_w bx nb)) = 0)
    (hk : ∀ M', mb_is M' d (nb + 1) (rd_nx bx nb (rd_w bx nb) s m0) → (∀ b, ¬ b = 102 → ¬ b = 84 → M' b = M b) → (∀ k, ¬ k = 32 → M' 84 k = M 84 k) → Q (.inl (some (.int 1))) (M', J, rf_w r, sh_w N, n)) :
    mc_WP (mc_en 116 [.ref 84] (M, J, rf_w r, sh_w N, n)) Q := by
  have hM := h
  obtain ⟨a1, a2, a3, a4, a5, a6⟩ := h
  have hw := wb_lt (fun b => ws_l (bx b)) nb (by omega)
  refine cm_widest hM hG (fun q => absurd q hws) fun _ x2 x3 x4 => bk_116_68 ?_
  generalize hwe : rd_w bx nb = w at *
  have hw' : w < nb := by rw [← hwe]; exact hw
  have hperm := a6 w hw'
  have hGs : rd_G s := (hG w hw').perm hs1.symm
  have hsm := sm_t (fun a ha => (hGs.2.1 a ha).2) hGs.2.2.2
  have hle := hGs.2.2.2
  have hv100 : ∀ b, b < 17 → ¬ (100 : Int32) = Int32.ofNat b := fun b hb q => by
    have := (on_eq (k := 100) (m := b) (by omega) (by omega)).mp q
    omega
  -- how many of it there are
  refine lp_go (C := fun k (_ : Unit) => (116, 78, [.ref 84, .int (Int32.ofNat w), .int x2, .int (Int32.ofNat (wp_l (bx w))), .int (sm_l Prod.snd (fl_l M k (Int32.ofNat w))), .int (Int32.ofNat (fl_l M k (Int32.ofNat w)).length), .int (Int32.ofNat k), .null, .null, .null, .null], [], (M, J, rf_w r, sh_w N, n), (0, 0))) (P := fun _ _ => True) d () trivial ?_ ?_
  · intro k hk' _ _ next
    have nx := next () trivial
    have hvk : vp_in (Int32.ofNat k) 64 := on_vp (by omega) (by omega)
    refine bk_116_78 ?_
    rw [a1, on_n (k := k) (by omega), on_1, on_1]
    refine ⟨fun q => absurd ((on_le (by omega) (by omega)).mp q) (by omega), fun _ => ⟨hvk, fun q => ⟨hvk, fun _ => ?_, fun q2 => absurd q q2⟩, fun q => ⟨hvk, hvk, fun q2 => absurd q2 q, fun _ => ?_⟩⟩⟩
    · rw [fl_s0 q] at nx
      exact nx
    · rw [fl_s1 (Classical.not_not.mp q), sm_snoc, List.length_append] at nx
      exact nx
  · intro _ _
    refine bk_116_78 ?_
    rw [a1]
    refine ⟨fun _ => ?_, fun q => absurd ((on_le (by omega) (by omega)).mpr (Nat.le_refl _)) q⟩
    rw [sm_perm (hperm.trans hs1.symm), (hperm.trans hs1.symm).length_eq]
    refine cm_select (m0 := m0) a1 a2 (wp_3 _) (hv100 w (by omega)) hGs hs2 hs3 (fun M1 x6 x7 z9 z10 hP => ?_) m0 0 M _ _ _ (by omega) ⟨fun _ _ => rfl, hperm.trans hs1.symm, ?_, fun k _ => Or.inl rfl⟩
    · obtain ⟨p1, p2, p3, p4⟩ := hP
      have lab : ∀ k, k < d → (∃ b, b < nb ∧ M1 102 k = Int32.ofNat b) ∨ M1 102 k = 100 := fun k hk' => by
        rcases p4 k hk' with z | z
        · obtain ⟨b, b1, b2⟩ := a5 k hk'
          exact Or.inl ⟨b, b1, by rw [z]; exact b2⟩
        · exact Or.inr z.1
      have nne : ∀ k, k < d → ¬ M1 102 k = Int32.ofNat nb := fun k hk' q => by
        rcases lab k hk' with ⟨b, b1, b2⟩ | z
        · rw [b2, on_eq (by omega) (by omega)] at q; omega
        · rw [z] at q; exact hv100 nb (by omega) q
      let g : Int32 → Int32 := fun l => if l = Int32.ofNat w then Int32.ofNat nb else if l = 100 then Int32.ofNat w else l
      refine lp_go (C := fun k (M2 : rl_M) => (116, 322, [.ref 84, .int (Int32.ofNat w), .int x2, .int (Int32.ofNat (wp_l (bx w))), .int (sm_l Prod.snd s), .int (Int32.ofNat s.length), .int x6, .int x7, .int (Int32.ofNat k), z9, z10], [], (M2, J, rf_w r, sh_w N, n), (0, 0))) (P := fun k M2 => (∀ b, ¬ b = 102 → M2 b = M1 b) ∧ ∀ j, M2 102 j = if j < k then g (M1 102 j) else M1 102 j) d M1 ⟨fun _ _ => rfl, fun j => by rw [if_neg (by omega)]⟩ ?_ ?_
      · intro k hk' M2 ⟨r1, r2⟩ next
        try dsimp only at r1 r2 next ⊢
        have hvk : vp_in (Int32.ofNat k) 64 := on_vp (by omega) (by omega)
        have e84 : M2 84 = M 84 := by rw [r1 84 (by decide), p1 84 (by decide)]
        have e102 : M2 102 k = M1 102 k := by rw [r2, if_neg (by omega)]
        refine bk_116_322 ?_
        rw [e84, a1, a3, on_n (k := k) (by omega), on_1 (k := k), e102]
        have nx : ∀ x : Int32, x = g (M1 102 k) → mc_WP (116, 322, [.ref 84, .int (Int32.ofNat w), .int x2, .int (Int32.ofNat (wp_l (bx w))), .int (sm_l Prod.snd s), .int (Int32.ofNat s.length), .int x6, .int x7, .int (Int32.ofNat (k + 1)), z9, z10], [], (mc_up M2 102 k x, J, rf_w r, sh_w N, n), (0, 0)) Q := fun x hx => next _ ⟨fun b hb => (up_ne hb).trans (r1 b hb), fun j => by
          rw [up_row]
          dsimp only
          by_cases q : j = k
          · rw [if_pos q, if_pos (by omega), hx, q]
          · rw [if_neg q, r2]
            by_cases q2 : j < k
            · rw [if_pos q2, if_pos (by omega)]
            · rw [if_neg q2, if_neg (by omega)]⟩
        refine ⟨fun q => absurd ((on_le (by omega) (by omega)).mp q) (by omega), fun _ => ⟨hvk, fun q => ⟨hvk, fun q2 => ⟨hvk, hvk, nx _ ?_⟩, fun q2 => ⟨hvk, nx _ ?_⟩⟩, fun q => ⟨hvk, nx _ ?_⟩⟩⟩
        · show _ = if _ then _ else _
          rw [if_neg q, if_neg q2]
        · show _ = if _ then _ else _
          rw [if_neg q, if_pos (Classical.not_not.mp q2)]
        · show _ = if _ then _ else _
          rw [if_pos (Classical.not_not.mp q)]
      · intro M2 ⟨r1, r2⟩
        try dsimp only at r1 r2 ⊢
        have e84 : M2 84 = M 84 := by rw [r1 84 (by decide), p1 84 (by decide)]
        have l2 : ∀ j, j < d → M2 102 j = g (M1 102 j) := fun j hj => by rw [r2, if_pos hj]
        refine bk_116_322 ?_
        rw [e84, a1, a3, on_1]
        refine ⟨fun _ => hk _ ⟨?_, a2, by rw [up_at], by omega, fun k hk' => ?_, fun b hb => ?_⟩ (fun b q1 q2 => by rw [up_ne q2, r1 b q1, p1 b q1]) (fun k q => by rw [up_nk q, e84]), fun q => absurd ((on_le (by omega) (by omega)).mpr (Nat.le_refl _)) q⟩
        · rw [up_nk (by decide), e84]; exact a1
        · rw [up_ne (by decide), l2 k hk']
          show ∃ b, b < nb + 1 ∧ (if M1 102 k = Int32.ofNat w then Int32.ofNat nb else if M1 102 k = 100 then Int32.ofNat w else M1 102 k) = Int32.ofNat b
          split
          · exact ⟨nb, by omega, rfl⟩
          · split
            · exact ⟨w, by omega, rfl⟩
            · rename_i q1 q2
              rcases lab k hk' with ⟨b, b1, b2⟩ | z
              · exact ⟨b, by omega, b2⟩
              · exact absurd z q2
        · have rows : ∀ k, k < d → mc_up M2 84 32 (Int32.ofNat (nb + 1)) 100 k = M1 100 k ∧ mc_up M2 84 32 (Int32.ofNat (nb + 1)) 101 k = M1 101 k := fun k _ => by rw [up_ne (by decide), up_ne (by decide), r1 100 (by decide), r1 101 (by decide)]; exact ⟨rfl, rfl⟩
          have row0 : ∀ k, k < d → M1 100 k = M 100 k ∧ M1 101 k = M 101 k := fun k _ => by rw [p1 100 (by decide), p1 101 (by decide)]; exact ⟨rfl, rfl⟩
          have gl : ∀ k, k < d → mc_up M2 84 32 (Int32.ofNat (nb + 1)) 102 k = if M1 102 k = Int32.ofNat w then Int32.ofNat nb else if M1 102 k = 100 then Int32.ofNat w else M1 102 k := fun k hk' => by rw [up_ne (by decide), l2 k hk']
          have wnb : ¬ Int32.ofNat nb = Int32.ofNat w := fun q => by rw [on_eq (by omega) (by omega)] at q; omega
          unfold rd_nx
          by_cases q1 : b = w
          · rw [if_pos q1, q1]
            refine List.Perm.trans (List.Perm.of_eq (fl_cg d (fun k hk' => ?_) rows)) p3
            rw [gl k hk']
            constructor
            · intro z
              split at z
              · exact absurd z wnb
              · split at z
                · assumption
                · rename_i y1 y2; exact absurd z y1
            · intro z
              rw [z, if_neg (hv100 w (by omega)), if_pos rfl]
          · rw [if_neg q1]
            by_cases q2 : b = nb
            · rw [if_pos q2, q2]
              refine List.Perm.trans (List.Perm.of_eq (fl_cg d (fun k hk' => ?_) rows)) p2
              rw [gl k hk']
              constructor
              · intro z
                split at z
                · assumption
                · split at z
                  · exact absurd z.symm wnb
                  · exact absurd z (nne k hk')
              · intro z
                rw [if_pos z]
            · rw [if_neg q2]
              refine List.Perm.trans (List.Perm.of_eq ?_) (a6 b (by omega))
              have bw : ¬ Int32.ofNat b = Int32.ofNat w := fun q => by rw [on_eq (by omega) (by omega)] at q; omega
              have bn : ¬ Int32.ofNat b = Int32.ofNat nb := fun q => by rw [on_eq (by omega) (by omega)] at q; omega
              have b100 := hv100 b (by omega)
              refine (fl_cg (M := M1) (v := Int32.ofNat b) d (fun k hk' => ?_) rows).trans (fl_cg d (fun k hk' => ?_) row0)
              · rw [gl k hk']
                constructor
                · intro z
                  split at z
                  · exact absurd z.symm bn
                  · split at z
                    · exact absurd z.symm bw
                    · exact z
                · intro z
                  rw [if_neg (by rw [z]; exact bw), if_neg (by rw [z]; exact fun q => b100 q.symm)]
                  exact z
              · rcases p4 k hk' with z | z
                · rw [z]
                · rw [z.1, z.2]
                  exact ⟨fun q => absurd q b100, fun q => absurd q.symm bw⟩
    · have : fl_l M d 100 = [] := by
        refine List.eq_nil_iff_forall_not_mem.mpr fun a ha => ?_
        obtain ⟨k, k1, k2, -⟩ := fl_mem.mp ha
        obtain ⟨b, b1, b2⟩ := a5 k k1
        exact hv100 b (by omega) (k2.symm.trans b2)
      rw [this]
      exact List.Perm.refl _
end
