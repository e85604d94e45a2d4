/-- the reference's constructor -/
def mm_y : List Nat := [2, 3, 4, 6, 7, 8, 9, 11, 12, 13, 14, 15, 16, 17, 27, 29, 30, 31, 33, 34]
def mm_l : Nat → List (Nat × Nat × Nat)
  | 0 => pl_f
  | k + 1 => (84, mc_nth mm_y k 0, 85 + k) :: mm_l k
theorem mm_0 : mk_b pl_f 84 := by unfold mk_b; decide
theorem mm_b : ∀ k, mk_b (mm_l k) (85 + k)
  | 0 => mm_0.up (by decide)
  | k + 1 => ((mm_b k).up (by omega)).cons (by omega)
def wm_c (x : Int32) : Int32 := if 1 ≤ x then (if x ≤ 8 then x else 8) else 1
/-- the ints behind both constructors -/
def pi_2 (I : rl_M) (x1 x2 : Int32) : rl_M := mc_fl (mc_up (mc_up (mc_up I 85 2 (wm_c x1)) 85 3 (wm_c x2)) 85 4 1) 93 0 64 (-1)
section
variable {B : rl_M} {B' : Nat → Nat → Int64} {lo N n p a y v : Nat} {l : List (Nat × Nat × Nat)} {Q : mc_Q} {x1 x2 : Int32}
theorem mk_I0 : mk_I B lo lo = B := by
  funext a
  unfold mk_I
  rw [if_neg (by omega)]
theorem mk_J0 : mk_J B' lo lo = B' := by
  funext a
  unfold mk_J
  rw [if_neg (by omega)]
theorem cm_19a (hq : mc_WP (19, 168, [.ref 84, .int x1, .int x2], [], mk_M B B' 84 N (mm_l 20) 105, (20, 2474)) Q) : mc_WP (mc_en 19 [.ref 84, .int x1, .int x2] (mk_M B B' 84 N (mm_l 0) 85)) Q := by
  refine bg_19_0 (I := mk_I B 84 85) (J := mk_J B' 84 85) (P := mk_P (mm_l 0)) (S := mk_S N 85) (n := 85) ⟨by decide, ⟨mk_Sr (by decide) rfl rfl, by decide⟩, ?_⟩
  rw [mk_newp (n := 85) (l := mm_l 0) (by decide) (mm_b 0) (show sh_w N 85 = (2, 45) from rfl)]
  refine bg_19_12 (I := mk_I B 84 86) (J := mk_J B' 84 86) (P := mk_P (mm_l 1)) (S := mk_S N 86) (n := 86) ⟨by decide, ⟨mk_Sr (by decide) rfl rfl, by decide⟩, ?_⟩
  rw [mk_newp (n := 86) (l := mm_l 1) (by decide) (mm_b 1) (show sh_w N 86 = (2, 80) from rfl)]
  refine bg_19_20 (I := mk_I B 84 87) (J := mk_J B' 84 87) (P := mk_P (mm_l 2)) (S := mk_S N 87) (n := 87) ⟨by decide, ⟨mk_Sr (by decide) rfl rfl, by decide⟩, ?_⟩
  rw [mk_newp (n := 87) (l := mm_l 2) (by decide) (mm_b 2) (show sh_w N 87 = (2, 256) from rfl)]
  refine bg_19_29 (I := mk_I B 84 88) (J := mk_J B' 84 88) (P := mk_P (mm_l 3)) (S := mk_S N 88) (n := 88) ⟨by decide, ⟨mk_Sr (by decide) rfl rfl, by decide⟩, ?_⟩
  rw [mk_newp (n := 88) (l := mm_l 3) (by decide) (mm_b 3) (show sh_w N 88 = (2, 45) from rfl)]
  refine bg_19_37 (I := mk_I B 84 89) (J := mk_J B' 84 89) (P := mk_P (mm_l 4)) (S := mk_S N 89) (n := 89) ⟨by decide, ⟨mk_Sr (by decide) rfl rfl, by decide⟩, ?_⟩
  rw [mk_newp (n := 89) (l := mm_l 4) (by decide) (mm_b 4) (show sh_w N 89 = (2, 80) from rfl)]
  refine bg_19_45 (I := mk_I B 84 90) (J := mk_J B' 84 90) (P := mk_P (mm_l 5)) (S := mk_S N 90) (n := 90) ⟨by decide, ⟨mk_Sr (by decide) rfl rfl, by decide⟩, ?_⟩
  rw [mk_newp (n := 90) (l := mm_l 5) (by decide) (mm_b 5) (show sh_w N 90 = (2, 256) from rfl)]
  refine bg_19_54 (I := mk_I B 84 91) (J := mk_J B' 84 91) (P := mk_P (mm_l 6)) (S := mk_S N 91) (n := 91) ⟨by decide, ⟨mk_Sr (by decide) rfl rfl, by decide⟩, ?_⟩
  rw [mk_newp (n := 91) (l := mm_l 6) (by decide) (mm_b 6) (show sh_w N 91 = (2, 800) from rfl)]
  refine bg_19_63 (I := mk_I B 84 92) (J := mk_J B' 84 92) (P := mk_P (mm_l 7)) (S := mk_S N 92) (n := 92) ⟨by decide, ⟨mk_Sr (by decide) rfl rfl, by decide⟩, ?_⟩
  rw [mk_newp (n := 92) (l := mm_l 7) (by decide) (mm_b 7) (show sh_w N 92 = (2, 64) from rfl)]
  refine bg_19_71 (I := mk_I B 84 93) (J := mk_J B' 84 93) (P := mk_P (mm_l 8)) (S := mk_S N 93) (n := 93) ⟨by decide, ⟨mk_Sr (by decide) rfl rfl, by decide⟩, ?_⟩
  rw [mk_newp (n := 93) (l := mm_l 8) (by decide) (mm_b 8) (show sh_w N 93 = (2, 64) from rfl)]
  refine bg_19_79 (I := mk_I B 84 94) (J := mk_J B' 84 94) (P := mk_P (mm_l 9)) (S := mk_S N 94) (n := 94) ⟨by decide, ⟨mk_Sr (by decide) rfl rfl, by decide⟩, ?_⟩
  rw [mk_newp (n := 94) (l := mm_l 9) (by decide) (mm_b 9) (show sh_w N 94 = (2, 64) from rfl)]
  refine bg_19_87 (I := mk_I B 84 95) (J := mk_J B' 84 95) (P := mk_P (mm_l 10)) (S := mk_S N 95) (n := 95) ⟨by decide, ⟨mk_Sr (by decide) rfl rfl, by decide⟩, ?_⟩
  rw [mk_newp (n := 95) (l := mm_l 10) (by decide) (mm_b 10) (show sh_w N 95 = (2, 64) from rfl)]
  refine bg_19_95 (I := mk_I B 84 96) (J := mk_J B' 84 96) (P := mk_P (mm_l 11)) (S := mk_S N 96) (n := 96) ⟨by decide, ⟨mk_Sr (by decide) rfl rfl, by decide⟩, ?_⟩
  rw [mk_newp (n := 96) (l := mm_l 11) (by decide) (mm_b 11) (show sh_w N 96 = (2, 64) from rfl)]
  refine bg_19_103 (I := mk_I B 84 97) (J := mk_J B' 84 97) (P := mk_P (mm_l 12)) (S := mk_S N 97) (n := 97) ⟨by decide, ⟨mk_Sr (by decide) rfl rfl, by decide⟩, ?_⟩
  rw [mk_newp (n := 97) (l := mm_l 12) (by decide) (mm_b 12) (show sh_w N 97 = (2, 64) from rfl)]
  refine bg_19_111 (I := mk_I B 84 98) (J := mk_J B' 84 98) (P := mk_P (mm_l 13)) (S := mk_S N 98) (n := 98) ⟨by decide, ⟨mk_Sr (by decide) rfl rfl, by decide⟩, ?_⟩
  rw [mk_newp (n := 98) (l := mm_l 13) (by decide) (mm_b 13) (show sh_w N 98 = (2, 64) from rfl)]
  refine bg_19_119 (I := mk_I B 84 99) (J := mk_J B' 84 99) (P := mk_P (mm_l 14)) (S := mk_S N 99) (n := 99) ⟨by decide, ⟨mk_Sr (by decide) rfl rfl, by decide⟩, ?_⟩
  rw [mk_newp (n := 99) (l := mm_l 14) (by decide) (mm_b 14) (show sh_w N 99 = (2, 64) from rfl)]
  refine bg_19_127 (I := mk_I B 84 100) (J := mk_J B' 84 100) (P := mk_P (mm_l 15)) (S := mk_S N 100) (n := 100) ⟨by decide, ⟨mk_Sr (by decide) rfl rfl, by decide⟩, ?_⟩
  rw [mk_newp (n := 100) (l := mm_l 15) (by decide) (mm_b 15) (show sh_w N 100 = (2, 64) from rfl)]
  refine bg_19_135 (I := mk_I B 84 101) (J := mk_J B' 84 101) (P := mk_P (mm_l 16)) (S := mk_S N 101) (n := 101) ⟨by decide, ⟨mk_Sr (by decide) rfl rfl, by decide⟩, ?_⟩
  rw [mk_newp (n := 101) (l := mm_l 16) (by decide) (mm_b 16) (show sh_w N 101 = (2, 64) from rfl)]
  refine bg_19_143 (I := mk_I B 84 102) (J := mk_J B' 84 102) (P := mk_P (mm_l 17)) (S := mk_S N 102) (n := 102) ⟨by decide, ⟨mk_Sr (by decide) rfl rfl, by decide⟩, ?_⟩
  rw [mk_newp (n := 102) (l := mm_l 17) (by decide) (mm_b 17) (show sh_w N 102 = (2, 64) from rfl)]
  refine bg_19_151 (I := mk_I B 84 103) (J := mk_J B' 84 103) (P := mk_P (mm_l 18)) (S := mk_S N 103) (n := 103) ⟨by decide, ⟨mk_Sr (by decide) rfl rfl, by decide⟩, ?_⟩
  rw [mk_newp (n := 103) (l := mm_l 18) (by decide) (mm_b 18) (show sh_w N 103 = (2, 16) from rfl)]
  refine bg_19_159 (I := mk_I B 84 104) (J := mk_J B' 84 104) (P := mk_P (mm_l 19)) (S := mk_S N 104) (n := 104) ⟨by decide, ⟨mk_Sr (by decide) rfl rfl, by decide⟩, ?_⟩
  rw [mk_newp (n := 104) (l := mm_l 19) (by decide) (mm_b 19) (show sh_w N 104 = (2, 192) from rfl)]
  exact hq
theorem mm_2 : mk_P (mm_l 20) 84 2 = 85 := by decide +kernel
theorem mm_12 : mk_P (mm_l 20) 84 12 = 93 := by decide +kernel
theorem cm_19 (hq : Q (.inl none) (pi_2 (mk_I B 84 105) x1 x2, mk_J B' 84 105, mk_P (mm_l 20), mk_S N 105, 105)) : mc_WP (mc_en 19 [.ref 84, .int x1, .int x2] (mk_M B B' 84 N (mm_l 0) 85)) Q := by
  refine cm_19a ?_
  have s3 : ∀ I : rl_M, mc_WP (mc_en 59 [.ref 84] (mc_up I 85 4 1, mk_J B' 84 105, mk_P (mm_l 20), mk_S N 105, 105)) (mc_kr (fun v t => mc_WP (19, 233, [.ref 84, .int x1, .int x2], v.toList ++ [], t, (20, 2474)) Q) (fun k t => Q (.inr k) t)) → mc_WP (19, 222, [.ref 84, .int x1, .int x2], [], (I, mk_J B' 84 105, mk_P (mm_l 20), mk_S N 105, 105), (20, 2474)) Q := by
    intro I h
    refine bg_19_222 ⟨⟨rfl, by rw [mm_2]; decide⟩, ?_⟩
    rw [mm_2]
    exact ⟨⟨rfl, by show vp_in 4 45; unfold vp_in; decide, by decide⟩, rfl, mc_inl h⟩
  have s2 : ∀ I : rl_M, mc_WP (19, 222, [.ref 84, .int x1, .int x2], [], (mc_up I 85 3 (wm_c x2), mk_J B' 84 105, mk_P (mm_l 20), mk_S N 105, 105), (20, 2474)) Q → mc_WP (19, 195, [.ref 84, .int x1, .int x2], [], (I, mk_J B' 84 105, mk_P (mm_l 20), mk_S N 105, 105), (20, 2474)) Q := by
    intro I h
    have put : ∀ y2, y2 = wm_c x2 → mc_WP (19, 221, [.ref 84, .int x1, .int x2], [.int y2, .int 3, .ref 85], (I, mk_J B' 84 105, mk_P (mm_l 20), mk_S N 105, 105), (20, 2474)) Q := fun y2 e => by
      subst e
      exact bg_19_221 ⟨⟨rfl, by show vp_in 3 45; unfold vp_in; decide, by decide⟩, h⟩
    refine bg_19_195 ⟨⟨rfl, by rw [mm_2]; decide⟩, ?_⟩
    rw [mm_2]
    unfold wm_c at put
    exact ⟨fun c => ⟨fun d => put _ (by rw [if_pos c, if_pos d]), fun d => put _ (by rw [if_pos c, if_neg d])⟩, fun c => put _ (by rw [if_neg c])⟩
  have s1 : ∀ I : rl_M, mc_WP (19, 195, [.ref 84, .int x1, .int x2], [], (mc_up I 85 2 (wm_c x1), mk_J B' 84 105, mk_P (mm_l 20), mk_S N 105, 105), (20, 2474)) Q → mc_WP (19, 168, [.ref 84, .int x1, .int x2], [], (I, mk_J B' 84 105, mk_P (mm_l 20), mk_S N 105, 105), (20, 2474)) Q := by
    intro I h
    have put : ∀ y2, y2 = wm_c x1 → mc_WP (19, 194, [.ref 84, .int x1, .int x2], [.int y2, .int 2, .ref 85], (I, mk_J B' 84 105, mk_P (mm_l 20), mk_S N 105, 105), (20, 2474)) Q := fun y2 e => by
      subst e
      exact bg_19_194 ⟨⟨rfl, by show vp_in 2 45; unfold vp_in; decide, by decide⟩, h⟩
    refine bg_19_168 ⟨⟨rfl, by rw [mm_2]; decide⟩, ?_⟩
    rw [mm_2]
    unfold wm_c at put
    exact ⟨fun c => ⟨fun d => put _ (by rw [if_pos c, if_pos d]), fun d => put _ (by rw [if_pos c, if_neg d])⟩, fun c => put _ (by rw [if_neg c])⟩
  refine s1 _ (s2 _ (s3 _ ?_))
  refine bg_59_0 ?_
  exact gg_clear (a := 84) (q := 93) rfl mm_12 rfl (by decide) 64 0 _ (by omega) (bg_19_233 hq)
theorem nth_out {α : Type} : ∀ (l : List α) (k : Nat) (d : α), l.length ≤ k → mc_nth l k d = d
  | [], _, _, _ => rfl
  | _ :: _, 0, _, h => absurd h (by simp)
  | _ :: l, k + 1, d, h => nth_out l k d (by simpa using h)
theorem mk_out : ∀ (l : List (Nat × Nat × Nat)), (∀ e ∈ l, e.1 < 106 ∧ e.2.1 < 35) → ∀ a y, ¬ (a < 106 ∧ y < 35) → mk_P l a y = 0
  | [], _, _, _, _ => rfl
  | (b, z, w) :: l, h, a, y, hn => by
    have h1 := h (b, z, w) List.mem_cons_self
    have h2 := mk_out l (fun e he => h e (List.mem_cons_of_mem _ he)) a y hn
    show mc_up (mk_P l) b z w a y = 0
    unfold mc_up
    rw [if_neg (fun q => hn (by rw [q.1, q.2]; exact h1))]
    exact h2
def mq_P : List (Nat × Nat × Nat) → Nat → Nat → Nat
  | [], _, _ => 0
  | (b, z, w) :: l, a, y => match Nat.beq a b && Nat.beq y z with
    | true => w
    | false => mq_P l a y
theorem mq_eq : ∀ (l : List (Nat × Nat × Nat)) (a y : Nat), mk_P l a y = mq_P l a y
  | [], _, _ => rfl
  | (b, z, w) :: l, a, y => by
    show mc_up (mk_P l) b z w a y = (match Nat.beq a b && Nat.beq y z with
      | true => w
      | false => mq_P l a y)
    unfold mc_up
    cases h : (Nat.beq a b && Nat.beq y z) with
    | true =>
      rw [Bool.and_eq_true] at h
      rw [if_pos ⟨Nat.eq_of_beq_eq_true h.1, Nat.eq_of_beq_eq_true h.2⟩]
    | false =>
      rw [if_neg (fun q => by rw [q.1, q.2, Nat.beq_refl, Nat.beq_refl] at h; cases h)]
      exact mq_eq l a y
def rf_b (a y : Nat) : Nat := match Nat.beq a 10 with
  | true => mc_nth [54, 56, 65, 75, 76, 11, 14, 34] y 0
  | false => mc_nth (mc_nth rf_l a []) y 0
theorem rf_eq (a y : Nat) : rf_w 14 a y = rf_b a y := by
  unfold rf_w rf_b
  cases h : Nat.beq a 10 with
  | true => rw [if_pos (Nat.eq_of_beq_eq_true h)]
  | false => rw [if_neg (fun q => by rw [q] at h; cases h)]
theorem mm_all : (List.range 106).all (fun a => (List.range 35).all (fun y => Nat.beq (mq_P (mm_l 20) a y) (rf_b a y))) = true := by decide +kernel
theorem mm_in (a : Nat) (ha : a < 106) (y : Nat) (hy : y < 35) : mk_P (mm_l 20) a y = rf_w 14 a y := by
  rw [mq_eq, rf_eq]
  have h := List.all_eq_true.mp (List.all_eq_true.mp mm_all a (List.mem_range.mpr ha)) y (List.mem_range.mpr hy)
  exact Nat.eq_of_beq_eq_true h
theorem mm_rng : ∀ e ∈ mm_l 20, e.1 < 106 ∧ e.2.1 < 35 := by decide +kernel
theorem rf_len : ∀ r ∈ rf_l, r.length ≤ 35 := by decide +kernel
theorem mm_P : mk_P (mm_l 20) = rf_w 14 := by
  funext a y
  by_cases h : a < 106 ∧ y < 35
  · exact mm_in a h.1 y h.2
  · rw [mk_out _ mm_rng a y h]
    unfold rf_w
    by_cases h10 : a = 10
    · rw [if_pos h10, nth_out _ _ _ (by show 8 ≤ y; omega)]
    · rw [if_neg h10]
      by_cases ha : a < 106
      · rcases mc_nth_mem rf_l a [] with q | q
        · rw [nth_out _ _ _ (Nat.le_trans (rf_len _ q) (by omega))]
        · rw [q]; rfl
      · rw [nth_out rf_l a [] (by show 85 ≤ a; omega)]; rfl
theorem mm_S : mk_S N 106 = sh_w N := by
  funext a
  unfold mk_S
  by_cases h : a < 106
  · rw [if_pos h]
  · rw [if_neg h]
    unfold sh_w
    rw [if_neg (by omega), nth_out _ _ _ (by show 106 ≤ a; omega)]
end
