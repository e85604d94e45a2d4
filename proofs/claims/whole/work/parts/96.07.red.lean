section
variable {I M : rl_M} {J : Nat → Nat → Int64} {r N n : Nat} {Q : mc_Q} {L l : List rd_T} {c : Int32} {s m p b d nb : Nat} {bx : Nat → List rd_T}
def rd_w (bx : Nat → List rd_T) (nb : Nat) : Nat := wb_l (fun b => ws_l (bx b)) nb
def rd_run (L : List rd_T) (nb : Nat) (sq : Nat → Nat → List rd_T) : Prop := sq 1 0 = L ∧ ∀ j, 1 ≤ j → j < nb → rd_st j (sq j) (sq (j + 1))
theorem rd_G.sub {l k : List rd_T} (h : rd_G l) (hs : k.Sublist l) (hn : k ≠ []) (hsum : sm_I k ≤ sm_I l) : rd_G k :=
  ⟨hn, fun a ha => h.2.1 a (hs.subset ha), h.2.2.1.sublist hs, Int.le_trans hsum h.2.2.2⟩
theorem sm_I0 : ∀ {l : List rd_T}, (∀ a ∈ l, 1 ≤ a.2.toInt) → 0 ≤ sm_I l
  | [], _ => Int.le_refl _
  | a :: l, h => by
    have := sm_I0 (l := l) (fun b hb => h b (List.mem_cons_of_mem _ hb))
    have := h a List.mem_cons_self
    show 0 ≤ a.2.toInt + sm_I l
    omega
theorem rd_G.cut {s : List rd_T} {m : Nat} (h : rd_G s) (h1 : 1 ≤ m) (h2 : m + 1 ≤ s.length) : rd_G (s.take m) ∧ rd_G (s.drop m) := by
  have e : sm_I s = sm_I (s.take m) + sm_I (s.drop m) := by rw [← sm_Ia, List.take_append_drop]
  have n1 := sm_I0 (l := s.take m) (fun a ha => (h.2.1 a (List.mem_of_mem_take ha)).2)
  have n2 := sm_I0 (l := s.drop m) (fun a ha => (h.2.1 a (List.mem_of_mem_drop ha)).2)
  refine ⟨h.sub (List.take_sublist m s) (fun q => ?_) (by omega), h.sub (List.drop_sublist m s) (fun q => ?_) (by omega)⟩
  · have := congrArg List.length q
    rw [List.length_take, List.length_nil] at this
    omega
  · have := congrArg List.length q
    rw [List.length_drop, List.length_nil] at this
    omega
theorem rd_good {sq : Nat → Nat → List rd_T} (hL : rd_G L) (h : rd_run L nb sq) : ∀ j, 1 ≤ j → j ≤ nb → ∀ b, b < j → rd_G (sq j b)
  | 0, q, _, _, _ => absurd q (by omega)
  | 1, _, _, b, hb => by
    have : b = 0 := by omega
    subst this
    rw [h.1]
    exact hL
  | j + 2, _, hj, b, hb => by
    have ih := rd_good hL h (j + 1) (by omega) (by omega)
    obtain ⟨hl, s, m, p1, p2, p3, p4⟩ := h.2 (j + 1) (by omega) (by omega)
    have hlt := wb_lt (fun b => ws_l (sq (j + 1) b)) (j + 1) (by omega)
    have hs := (ih _ hlt).perm p1.symm
    have hc := hs.cut p3.1.1 p3.1.2
    rw [p4]
    unfold rd_nx
    split
    · exact hc.1
    · split
      · exact hc.2
      · exact ih b (by omega)
/-- what the class's boxes leave as it was -/
def cb_K (M M' : rl_M) : Prop := (∀ c, ¬ c = 76 → ¬ c = 77 → ¬ c = 78 → ¬ c = 79 → ¬ c = 80 → M' c = M c) ∧ ∀ k, ¬ k = 9 → M' 76 k = M 76 k
theorem cc_turns {most : Nat} (hL : rd_G L) (hm : most ≤ 16)
    (hk : ∀ M' nb sq, rd_run L nb sq → 1 ≤ nb → nb ≤ most → (nb = most ∨ (sq nb (rd_w (sq nb) nb)).length < 2) → cb_is M' nb (sq nb) → cb_K I M' → Q (.inl none) (M', J, rf_w r, sh_w N, n)) :
    ∀ (rem t : Nat) (M : rl_M) (sq : Nat → Nat → List rd_T) (z : Value), 1 ≤ t → t + rem = most → rd_run L t sq → cb_is M t (sq t) → cb_K I M → mc_WP (171, 24, [.ref 76, .int (Int32.ofNat most), .int (Int32.ofNat t), z], [], (M, J, rf_w r, sh_w N, n), (0, 0)) Q
  | 0, t, M, sq, z, h1, ht, hr, hc, hK => by
    have e : t = most := by omega
    subst e
    exact bk_171_24 ⟨fun _ => hk M t sq hr h1 (Nat.le_refl _) (Or.inl rfl) hc hK, fun q => absurd ((on_le (by omega) (by omega)).mpr (Nat.le_refl _)) q⟩
  | rem + 1, t, M, sq, z, h1, ht, hr, hc, hK => by
    refine bk_171_24 ⟨fun q => absurd ((on_le (by omega) (by omega)).mp q) (by omega), fun _ => mc_inl ?_⟩
    refine cc_wbox hc ?_
    have hw := wb_lt (fun b => ws_l (sq t b)) t h1
    generalize hwe : wb_l (fun b => ws_l (sq t b)) t = w at hw
    have hv : vp_in (Int32.ofNat w) 16 := on_vp (by omega) (by omega)
    obtain ⟨c1, c2, st, ln, c3, c4⟩ := id hc
    obtain ⟨⟨b1, b2, b3, b4⟩, b5⟩ := c3 w hw
    have hlen : (sq t w).length = ln w := by rw [← b5, sg_len]
    refine bk_171_33 ⟨hv, hv, ?_⟩
    rw [on_n (by omega), b1, b2, on_sub (by omega), show st w + ln w - st w = ln w by omega, show (2 : Int32) = Int32.ofNat 2 from rfl, on_le (by omega) (by omega)]
    refine ⟨fun q => mc_inl ?_, fun q => hk M t sq hr h1 (by omega) (Or.inr (by unfold rd_w; rw [hwe, hlen]; omega)) hc hK⟩
    refine cc_partbox hc (rd_good hL hr t h1 (Nat.le_refl _)) (by omega) hw (by rw [hlen]; exact q) fun M' s m p1 p2 p3 p4 p5 p6 => ?_
    refine bk_171_57 ?_
    rw [on_1]
    refine cc_turns hL hm hk rem (t + 1) M' (fun j => if j = t + 1 then rd_nx (sq t) t w s m else sq j) _ (by omega) (by omega) ⟨?_, fun j hj1 hj2 => ?_⟩ ?_ ⟨fun c q1 q2 q3 q4 q5 => (p5 c q1 q2 q3 q4 q5).trans (hK.1 c q1 q2 q3 q4 q5), fun k q => (p6 k q).trans (hK.2 k q)⟩
    · show (if 1 = t + 1 then _ else sq 1) 0 = L
      rw [if_neg (by omega)]
      exact hr.1
    · show rd_st j (if j = t + 1 then _ else sq j) (if j + 1 = t + 1 then _ else sq (j + 1))
      rw [if_neg (by omega)]
      by_cases q2 : j = t
      · subst q2
        rw [if_pos rfl]
        refine ⟨by rw [hwe, hlen]; exact q, s, m, ?_⟩
        rw [hwe]
        exact ⟨p1, p2, p3, rfl⟩
      · rw [if_neg (by omega)]
        exact hr.2 j hj1 (by omega)
    · show cb_is M' (t + 1) (if t + 1 = t + 1 then _ else _)
      rw [if_pos rfl]
      exact p4
theorem cc_boxes {most : Nat} (hL : rd_G L) (h1 : 1 ≤ most) (hm : most ≤ 16) (hd : I 76 8 = Int32.ofNat L.length) (hro : ro_is I 77 78 L)
    (hk : ∀ M' nb sq, rd_run L nb sq → 1 ≤ nb → nb ≤ most → (nb = most ∨ (sq nb (rd_w (sq nb) nb)).length < 2) → cb_is M' nb (sq nb) → cb_K I M' → Q (.inl none) (M', J, rf_w r, sh_w N, n)) :
    mc_WP (mc_en 171 [.ref 76, .int (Int32.ofNat most)] (I, J, rf_w r, sh_w N, n)) Q := by
  have hlen := (sm_t (fun a ha => (hL.2.1 a ha).2) hL.2.2.2).2
  have hle := hL.2.2.2
  have hpos : 1 ≤ L.length := by
    have := hL.1
    cases L with
    | nil => exact absurd rfl this
    | cons a l => exact Nat.succ_le_succ (Nat.zero_le _)
  refine bk_171_0 ?_
  rw [hd]
  generalize hM : mc_up (mc_up (mc_up I 76 9 1) 79 0 0) 80 0 (Int32.ofNat L.length) = M
  have rr : ∀ c, ¬ c = 76 → ¬ c = 79 → ¬ c = 80 → M c = I c := fun c q1 q2 q3 => by rw [← hM, up_ne q3, up_ne q2, up_ne q1]
  have hsg : sg_l M 0 L.length = L := by
    refine List.ext_getElem? fun i => ?_
    by_cases q : i < L.length
    · obtain ⟨a, a1, a2, a3, a4⟩ := ro_get (k := i) hro q
      rw [sg_at q, a1, Nat.zero_add, rr 77 (by decide) (by decide) (by decide), rr 78 (by decide) (by decide) (by decide), a3, a4]
    · rw [List.getElem?_eq_none (by rw [sg_len]; omega), List.getElem?_eq_none (by omega)]
  refine cc_turns (I := I) hL hm hk (most - 1) 1 M (fun _ _ => L) _ (Nat.le_refl _) (by omega) ⟨rfl, fun j h2 h3 => absurd h3 (by omega)⟩ ⟨by rw [← hM, up_ne (by decide), up_ne (by decide), up_at]; rfl, by decide, fun _ => 0, fun _ => L.length, fun b hb => ?_, fun b c hb hc hne => absurd hne (by omega)⟩ ⟨fun c q1 _ _ q4 q5 => rr c q1 q4 q5, fun k q => by rw [← hM, up_ne (by decide), up_ne (by decide), up_nk q]⟩
  have : b = 0 := by omega
  subst this
  refine ⟨⟨by rw [← hM, up_ne (by decide), up_at]; rfl, by rw [← hM, up_at, Nat.zero_add], (show 0 + L.length ≤ 64 by omega), hpos⟩, hsg⟩
end
