section
variable {I M M' : rl_M} {J : Nat → Nat → Int64} {r N n : Nat} {Q : mc_Q} {L D : List Int32} {v bf : Int32} {k b g w m f code nx en a0 : Nat} {s : List Int32 × Nat × Nat}
/-- the class's blocks -/
theorem cc_blocks (hD : M 63 1 = Int32.ofNat D.length) (hd : ∀ k a, D[k]? = some a → M 64 k = a) (h64 : D.length ≤ 64)
    (hk : ∀ M' L', oc_K M M' → oc_is M' L' → (L' = (if D = [] then L else bs_o (bs_f L D)) ++ [0]) → Q (.inl none) (M', J, rf_w r, sh_w N, n)) (h : oc_is M L) (hl : L.length + 2 * D.length + 2 ≤ 800) :
    mc_WP (mc_en 153 [.ref 56] (M, J, rf_w r, sh_w N, n)) Q := by
  have run : ∀ (t s : Nat) (L1 : List Int32) (M1 : rl_M) (z2 z3 : Value), D.length - s ≤ t → oc_K M M1 → oc_is M1 L1 → L1.length + 2 * (D.length - s) + 2 ≤ 800 → s ≤ 84 → (∀ M' L', oc_K M M' → oc_is M' L' → (L' = (if D.drop s = [] then L1 else bs_o (bs_f L1 (D.drop s))) ++ [0]) → Q (.inl none) (M', J, rf_w r, sh_w N, n)) → mc_WP (153, 2, [.ref 56, .int (Int32.ofNat s), z2, z3], [], (M1, J, rf_w r, sh_w N, n), (0, 0)) Q := by
    intro t
    induction t with
    | zero =>
      intro s L1 M1 z2 z3 ht k1 o1 l1 hs hq
      obtain ⟨o11, o12⟩ := id o1
      refine bk_153_2 ?_
      rw [k1.1 63 (by decide) (by decide), hD, o11, on_n (by omega), on_1 (k := L1.length)]
      refine ⟨fun _ => ⟨fun q => absurd ((on_le (k := 800) (by omega) (by omega)).mp q) (by omega), fun _ => ⟨on_vp (by omega) (by omega), hq _ (L1 ++ [0]) ⟨fun b q1 q2 => ?_, fun k q => ?_⟩ ⟨?_, ob_app o12 (fun k hk' => ?_) ?_⟩ ?_⟩⟩, fun q => absurd ((on_le (by omega) (by omega)).mpr (by omega)) q⟩
      · rw [up_ne q1, up_ne q2]; exact k1.1 b q1 q2
      · rw [up_nk q, up_ne (by decide)]; exact k1.2 k q
      · rw [up_at, List.length_append]; rfl
      · rw [up_ne (by decide), up_nk (by omega)]
      · rw [up_ne (by decide), up_at]
      · rw [if_pos (List.drop_eq_nil_of_le (by omega))]
    | succ t ih =>
      intro s L1 M1 z2 z3 ht k1 o1 l1 hs hq
      by_cases hz : D.length ≤ s
      · exact ih s L1 M1 z2 z3 (by omega) k1 o1 l1 hs hq
      · have hdn : D.drop s ≠ [] := fun q => by
          have := congrArg List.length q
          rw [List.length_drop, List.length_nil] at this
          omega
        rw [if_neg hdn] at hq
        obtain ⟨o11, o12⟩ := id o1
        obtain ⟨e, he1, he2⟩ : ∃ e, (e = min (s + 20) D.length) ∧ (if Int32.ofNat s + 20 < Int32.ofNat D.length then Int32.ofNat s + 20 else Int32.ofNat D.length) = Int32.ofNat e := by
          refine ⟨_, rfl, ?_⟩
          rw [show Int32.ofNat s + 20 = Int32.ofNat (s + 20) by rw [Int32.ofNat_add]; rfl]
          by_cases q : s + 20 < D.length
          · rw [if_pos ((on_lt (by omega) (by omega)).mpr q), Nat.min_eq_left (by omega)]
          · rw [if_neg (fun z => q ((on_lt (by omega) (by omega)).mp z)), Nat.min_eq_right (by omega)]
        refine bk_153_2 ?_
        rw [k1.1 63 (by decide) (by decide), hD, o11, on_n (by omega), on_1 (k := L1.length), he2, on_sub (by omega)]
        refine ⟨fun q => absurd ((on_le (by omega) (by omega)).mp q) (by omega), fun _ => ⟨fun q => absurd ((on_le (k := 800) (by omega) (by omega)).mp q) (by omega), fun _ => ⟨on_vp (by omega) (by omega), ?_⟩⟩⟩
        -- the bytes of the block
        have blk : ∀ (d i : Nat) (M2 : rl_M), i + d = e - s → oc_K M M2 → oc_is M2 (L1 ++ [Int32.ofNat (e - s)] ++ (D.drop s).take i) → mc_WP (153, 40, [.ref 56, .int (Int32.ofNat s), .int (Int32.ofNat e), .int (Int32.ofNat (s + i))], [], (M2, J, rf_w r, sh_w N, n), (0, 0)) Q := by
          intro d
          induction d with
          | zero =>
            intro i M2 hi k2 o2
            refine bk_153_40 ⟨fun _ => ?_, fun q => absurd ((on_le (by omega) (by omega)).mpr (by omega)) q⟩
            rw [show Int32.ofNat s + 20 = Int32.ofNat (s + 20) by rw [Int32.ofNat_add]; rfl]
            have hti : (D.drop s).take i = (D.drop s).take 20 := by
              by_cases q : s + 20 ≤ D.length
              · rw [show i = 20 by omega]
              · rw [List.take_of_length_le (by rw [List.length_drop]; omega), List.take_of_length_le (by rw [List.length_drop]; omega)]
            rw [hti] at o2
            have hlen : ((D.drop s).take 20).length = e - s := by rw [List.length_take, List.length_drop]; omega
            refine ih (s + 20) _ M2 _ _ (by omega) k2 o2 (by rw [List.length_append, List.length_append, List.length_singleton, hlen]; omega) (by omega) fun M' L' k' o' eq => hq M' L' k' o' ?_
            rw [eq, ← List.drop_drop]
            congr 1
            by_cases q : 20 < (D.drop s).length
            · rw [if_neg (fun z => by have := congrArg List.length z; rw [List.length_drop, List.length_nil] at this; omega), bs_step q]
              rw [List.length_drop] at q
              rw [show e - s = 20 by omega]
            · have hle : (D.drop s).length ≤ 20 := by omega
              rw [if_pos (List.drop_eq_nil_of_le hle), bs_last hle (by rw [List.length_drop]; omega), List.take_of_length_le hle]
              rw [List.length_drop] at hle ⊢
              rw [show e - s = D.length - s by omega]
          | succ d ih2 =>
            intro i M2 hi k2 o2
            obtain ⟨o21, o22⟩ := id o2
            have hlt : s + i < D.length := by omega
            have hlen : (L1 ++ [Int32.ofNat (e - s)] ++ (D.drop s).take i).length = L1.length + 1 + i := by rw [List.length_append, List.length_append, List.length_singleton, List.length_take, List.length_drop]; omega
            refine bk_153_40 ⟨fun q => absurd ((on_le (by omega) (by omega)).mp q) (by omega), fun _ => ⟨on_vp (by omega) (by omega), ?_⟩⟩
            rw [o21, hlen, on_n (k := L1.length + 1 + i) (by omega), on_n (k := s + i) (by omega), on_1 (k := L1.length + 1 + i), on_1 (k := s + i), k2.1 64 (by decide) (by decide), hd (s + i) D[s + i] (List.getElem?_eq_getElem hlt)]
            have htk : (D.drop s).take (i + 1) = (D.drop s).take i ++ [D[s + i]] := by
              rw [List.take_succ, List.getElem?_drop, List.getElem?_eq_getElem hlt]
              rfl
            refine ⟨fun q => absurd ((on_le (k := 800) (by omega) (by omega)).mp q) (by omega), fun _ => ⟨on_vp (by omega) (by omega), ih2 (i + 1) _ (by omega) ⟨fun b q1 q2 => ?_, fun k q => ?_⟩ ?_⟩⟩
            · rw [up_ne q1, up_ne q2]; exact k2.1 b q1 q2
            · rw [up_nk q, up_ne (by decide)]; exact k2.2 k q
            · rw [htk, ← List.append_assoc]
              refine ⟨by rw [up_at, List.length_append, hlen]; rfl, ob_app o22 (fun k hk' => ?_) ?_⟩
              · rw [up_ne (by decide), up_nk (by omega)]
              · rw [up_ne (by decide), hlen, up_at]
        refine blk (e - s) 0 _ (by omega) ⟨fun b q1 q2 => ?_, fun k q => ?_⟩ ?_
        · rw [up_ne q1, up_ne q2]; exact k1.1 b q1 q2
        · rw [up_nk q, up_ne (by decide)]; exact k1.2 k q
        · rw [List.take_zero, List.append_nil]
          refine ⟨by rw [up_at, List.length_append]; rfl, ob_app o12 (fun k hk' => ?_) ?_⟩
          · rw [up_ne (by decide), up_nk (by omega)]
          · rw [up_ne (by decide), up_at]
  refine bk_153_0 (run D.length 0 L M _ _ (by omega) oc_K.rf h (by omega) (by omega) fun M' L' k' o' eq => hk M' L' k' o' ?_)
  rw [eq, List.drop_zero]
end
