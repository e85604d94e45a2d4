/-! read: what PaletteReel.read does (printed by blocks.py), and the reference's -/
section
variable {I : Nat → Nat → Int32} {J : Nat → Nat → Int64} {r N n : Nat} {Q : mc_Q}
-- 9 read()I inl<=6
set_option maxRecDepth 20000 in
theorem bk_9_0  (hr : is_R r)
    (h : ∃ R : mc_Q, mc_WP (mc_en 157 [.ref 65, .ref (48 - r)] (I, J, rf_w r, sh_w N, n)) R ∧ (∀ v t, R (.inl v) t → mc_WP (9, 11, [.ref 10, .null], v.toList ++ [], t, (0, 0)) Q) ∧ (∀ k t, R (.inr k) t → Q (.inr k) t)) :
    mc_WP (mc_en 9 [.ref 10] (I, J, rf_w r, sh_w N, n)) Q := by
  exact (mc_WP.run (mc_adjs _) 5 (And.intro ⟨rfl, (show ¬ (65 : Nat) = 0 by decide)⟩ (And.intro ⟨rfl, (wd_R0 (wd_Q hr))⟩ (And.intro rfl (And.intro (by decide) (And.intro (by decide) h))))))
set_option maxRecDepth 20000 in
theorem bk_9_11 {y0 : Int32}
    (h : (¬ y0 = 0 →
        (mc_WP (9, 24, [.ref 10, .null], [], (I, J, rf_w r, sh_w N, n), (0, 0)) Q)) ∧
        (¬ (¬ y0 = 0) → (Q (.inr 2) (I, J, rf_w r, sh_w N, 0)))) :
    mc_WP (9, 11, [.ref 10, .null], [.int y0], (I, J, rf_w r, sh_w N, n), (0, 0)) Q := by
  exact (mc_WP.run (mc_adjs _) 1 (And.intro (fun c3 => (h.1 c3)) (fun c3 => (mc_WP.run (mc_adjs _) 1 (And.intro (by decide) (And.intro (by decide) (h.2 c3)))))))
set_option maxRecDepth 20000 in
theorem bk_9_24  (hr : is_R r)
    (h : (¬ (I (48 - r) 2) = (I r 2) →
        (∃ R : mc_Q, mc_WP (mc_en 205 [.ref 75, .int (0 : Int32)] (I, J, rf_w r, sh_w N, n)) R ∧ (∀ v t, R (.inl v) t → mc_WP (9, 66, [.ref 10, .null], v.toList ++ [], t, (0, 0)) Q) ∧ (∀ k t, R (.inr k) t → Q (.inr k) t))) ∧
        (¬ (¬ (I (48 - r) 2) = (I r 2)) →
        (((I (48 - r) 3) = (I r 3) →
          (mc_WP (9, 66, [.ref 10, .null], [], (I, J, rf_w r, sh_w N, n), (0, 0)) Q)) ∧
          (¬ ((I (48 - r) 3) = (I r 3)) →
          (∃ R : mc_Q, mc_WP (mc_en 205 [.ref 75, .int (0 : Int32)] (I, J, rf_w r, sh_w N, n)) R ∧ (∀ v t, R (.inl v) t → mc_WP (9, 66, [.ref 10, .null], v.toList ++ [], t, (0, 0)) Q) ∧ (∀ k t, R (.inr k) t → Q (.inr k) t)))))) :
    mc_WP (9, 24, [.ref 10, .null], [], (I, J, rf_w r, sh_w N, n), (0, 0)) Q := by
  exact (mc_WP.run (mc_adjs _) 7 (And.intro ⟨rfl, (wd_R0 (wd_Q hr))⟩ (And.intro (wd_R (r := r) (N := N) (wd_Q hr)).1 (And.intro ⟨rfl, (wd_R0 hr)⟩ (And.intro (wd_R (r := r) (N := N) hr).1 (And.intro (fun c5 => (mc_WP.run (mc_adjs _) 4 (And.intro ⟨rfl, (show ¬ (75 : Nat) = 0 by decide)⟩ (And.intro (by decide) (And.intro (by decide) (h.1 c5)))))) (fun c5 => (mc_WP.run (mc_adjs _) 7 (And.intro ⟨rfl, (wd_R0 (wd_Q hr))⟩ (And.intro (wd_R (r := r) (N := N) (wd_Q hr)).1 (And.intro ⟨rfl, (wd_R0 hr)⟩ (And.intro (wd_R (r := r) (N := N) hr).1 (And.intro (fun c6 => ((h.2 c5).1 c6)) (fun c6 => (mc_WP.run (mc_adjs _) 4 (And.intro ⟨rfl, (show ¬ (75 : Nat) = 0 by decide)⟩ (And.intro (by decide) (And.intro (by decide) ((h.2 c5).2 c6)))))))))))))))))))
end
section
variable {I : Nat → Nat → Int32} {J : Nat → Nat → Int64} {P : Nat → Nat → Nat} {S : Nat → Nat × Nat} {n : Nat} {Q : mc_Q}
-- 9 read()I made
set_option maxRecDepth 20000 in
theorem bg_9_66 {a0 : Nat}
    (h : (S a0 = (1, 0) ∧ ¬ P a0 6 = 0) ∧ (S a0 = (1, 0) ∧ ¬ P a0 7 = 0) ∧ (S a0 = (1, 0) ∧ ¬ (P a0 7) = 0) ∧ (S a0 = (1, 0) ∧ ¬ (P a0 6) = 0) ∧ (S a0 = (1, 0) ∧ ¬ (mc_up (mc_up P a0 6 (P a0 7)) a0 7 (P a0 6)) a0 5 = 0) ∧ S ((mc_up (mc_up P a0 6 (P a0 7)) a0 7 (P a0 6)) a0 5) = (1, 2) ∧ ∃ R : mc_Q, mc_WP (mc_en 127 [.ref ((mc_up (mc_up P a0 6 (P a0 7)) a0 7 (P a0 6)) a0 5)] (I, J, (mc_up (mc_up P a0 6 (P a0 7)) a0 7 (P a0 6)), S, n)) R ∧ (∀ v t, R (.inl v) t → mc_WP (9, 91, [.ref a0, .ref (P a0 6)], v.toList ++ [], t, (0, 0)) Q) ∧ (∀ k t, R (.inr k) t → Q (.inr k) t)) :
    mc_WP (9, 66, [.ref a0, .null], [], (I, J, P, S, n), (0, 0)) Q := by
  exact (mc_WP.run (mc_adjs _) 13 (And.intro h.1 (And.intro h.2.1 (And.intro h.2.2.1 (And.intro h.2.2.2.1 (And.intro h.2.2.2.2.1 (And.intro h.2.2.2.2.2.1 (And.intro (by decide) (And.intro (by decide) h.2.2.2.2.2.2)))))))))
set_option maxRecDepth 20000 in
theorem bg_9_91 {a0 : Nat} {a1 : Nat}
    (h : (S a0 = (1, 0) ∧ ¬ P a0 6 = 0) ∧ S (P a0 6) = (1, 9) ∧ Q (.inl (some (.int (I (P a0 6) 4)))) (I, J, P, S, n)) :
    mc_WP (9, 91, [.ref a0, .ref a1], [], (I, J, P, S, n), (0, 0)) Q := by
  exact (mc_WP.run (mc_adjs _) 4 (And.intro h.1 (And.intro h.2.1 h.2.2)))
end
section
variable {I M M' : rl_M} {J : Nat → Nat → Int64} {r N n : Nat} {Q : mc_Q} {B : rd_B} {a k m b c v w t cnt sb z f : Nat} {s : Nat × Nat × Int32} {R : fr_T} {Rs : List fr_T}
theorem rf_sw (hr : is_R r) : mc_up (mc_up (rf_w r) 10 6 (rf_w r 10 7)) 10 7 (rf_w r 10 6) = rf_w (48 - r) := by
  funext a y
  unfold mc_up
  have e6 : rf_w r 10 6 = r := rfl
  have e7 : rf_w r 10 7 = 48 - r := rfl
  rw [e6, e7]
  by_cases ha : a = 10
  · subst ha
    by_cases h7 : y = 7
    · subst h7
      rw [if_pos ⟨rfl, rfl⟩]
      rcases R_lt hr with rfl | rfl <;> rfl
    · rw [if_neg fun z => h7 z.2]
      by_cases h6 : y = 6
      · subst h6
        rw [if_pos ⟨rfl, rfl⟩]
        rfl
      · rw [if_neg fun z => h6 z.2]
        unfold rf_w
        rw [if_pos rfl, if_pos rfl]
        rcases Nat.lt_or_ge y 6 with hy | hy
        · rcases (show y = 0 ∨ y = 1 ∨ y = 2 ∨ y = 3 ∨ y = 4 ∨ y = 5 by omega) with rfl | rfl | rfl | rfl | rfl | rfl <;> rfl
        · obtain ⟨d, rfl⟩ : ∃ d, y = 8 + d := ⟨y - 8, by omega⟩
          rw [Nat.add_comm 8 d]
          rfl
  · rw [if_neg fun z => ha z.1, if_neg fun z => ha z.1]
    unfold rf_w
    rw [if_neg ha, if_neg ha]
def so_k (s : Nat × Nat × Int32) : Prop := s.1 ≤ 3 ∧ s.2.1 ≤ 255 ∧ -1 ≤ s.2.2.toInt
theorem se_ok (hB : rd_ok B) : so_k (se_s B a) := by
  unfold se_s so_k
  dsimp only
  have b2 := hB.2 (a + 1)
  have b3 := hB.2 (a + 2)
  refine ⟨by omega, by omega, ?_⟩
  split
  · rw [on_t (by omega)]; omega
  · decide
/-- every frame that was read is one -/
theorem rl_all (hB : rd_ok B) : ∀ t a cnt s Rs, rl_f B sb t a cnt s = some Rs → so_k s → cnt ≤ 4 → cnt + Rs.length ≤ 4 ∧ ∀ (f : Nat) (R : fr_T), Rs[f]? = some R → ∃ a s z, so_k s ∧ pf_f B a sb s = some (R, z) := by
  intro t
  induction t with
  | zero => intro a cnt s Rs h; cases h
  | succ t ih =>
    intro a cnt s Rs h hs hc
    by_cases hab : a < B.1
    · by_cases h59 : B.2 a = 59
      · rw [rl_59 hab h59] at h
        split at h
        · cases h
          exact ⟨by show cnt + 0 ≤ 4; omega, fun f R hf => absurd hf (by simp)⟩
        · cases h
      · by_cases h33 : B.2 a = 33
        · rw [rl_33 hab h33] at h
          split at h
          · exact ih _ _ _ _ h (se_ok hB) hc
          · cases h
        · by_cases h254 : B.2 a = 254
          · rw [rl_254 hab h254] at h
            cases hbs : bk_s B (a + 1) with
            | none => rw [hbs] at h; cases h
            | some p =>
              rw [hbs] at h
              exact ih _ _ _ _ h hs hc
          · by_cases h44 : B.2 a = 44 ∧ cnt < 4
            · rw [rl_44 hab h44.1 h44.2] at h
              cases hpf : pf_f B (a + 1) sb s with
              | none => rw [hpf] at h; cases h
              | some p =>
                obtain ⟨R0, z⟩ := p
                rw [hpf] at h
                cases hr : rl_f B sb t z (cnt + 1) (0, 0, -1) with
                | none =>
                  have h' : Option.map (fun l => R0 :: l) (rl_f B sb t z (cnt + 1) (0, 0, -1)) = some Rs := h
                  rw [hr] at h'; cases h'
                | some l =>
                  have h' : Option.map (fun l => R0 :: l) (rl_f B sb t z (cnt + 1) (0, 0, -1)) = some Rs := h
                  rw [hr] at h'
                  cases h'
                  obtain ⟨g1, g2⟩ := ih _ _ _ _ hr ⟨by decide, by decide, by decide⟩ (by omega)
                  refine ⟨by rw [List.length_cons]; omega, fun f R hf => ?_⟩
                  cases f with
                  | zero => cases hf; exact ⟨a + 1, s, z, hs, hpf⟩
                  | succ f => exact g2 f R hf
            · rw [rl_x hab h59 h33 h254 h44] at h; cases h
    · rw [rl_0 hab] at h; cases h
/-- copying a row -/
theorem cp_go {C : Nat → rl_M → mc_C} {d e len : Nat} (hde : ¬ d = e) (hs : ∀ k (M1 : rl_M), k < len → mc_WP (C (k + 1) (mc_up M1 d k (M1 e k))) Q → mc_WP (C k M1) Q) (he : ∀ M1 : rl_M, (∀ b, ¬ b = d → M1 b = M b) → (∀ k, k < len → M1 d k = M e k) → mc_WP (C len M1) Q) : mc_WP (C 0 M) Q := by
  have run : ∀ n k (M1 : rl_M), k + n = len → (∀ b, ¬ b = d → M1 b = M b) → (∀ j, j < k → M1 d j = M e j) → mc_WP (C k M1) Q := by
    intro n
    induction n with
    | zero =>
      intro k M1 hk h1 h2
      have : k = len := by omega
      subst this
      exact he M1 h1 h2
    | succ n ih =>
      intro k M1 hk h1 h2
      refine hs k M1 (by omega) (ih (k + 1) _ (by omega) (fun b q => by rw [up_ne q]; exact h1 b q) (fun j hj => ?_))
      by_cases z : j = k
      · rw [z, up_at, h1 e (fun y => hde y.symm)]
      · rw [up_nk z]; exact h2 j (by omega)
  exact run len 0 M (by omega) (fun _ _ => rfl) (fun j hj => by omega)
/-- PaletteReelModel.read -/
theorem cm_read (hB : rd_ok B) (hb : by_m M B)
    (hn : ∀ M', (∀ b, ¬ b = 84 → ¬ b = 88 → ¬ b = 89 → ¬ b = 90 → (b < 95 ∨ 100 ≤ b) → M' b = M b) → (∀ k, 1 ≤ k → k < 18 → ¬ k = 5 → M' 84 k = M 84 k) → (∀ k, k < 9 → ¬ (2 ≤ k ∧ k ≤ 4) → M' 88 k = M 88 k) → M' 84 0 = 1 → (¬ hd_C B ∨ rl_f B (B.2 4 + 1) 900 (5 + 3 * 2 ^ (B.2 4 + 1)) 0 (0, 0, -1) = none) → Q (.inl (some (.int 0))) (M', J, rf_w r, sh_w N, n))
    (hk : ∀ M' M1 Rs, tr_K M M1 → tr_is B M1 Rs → hd_C B → rl_f B (B.2 4 + 1) 900 (5 + 3 * 2 ^ (B.2 4 + 1)) 0 (0, 0, -1) = some Rs → (∀ b, ¬ b = 84 → ¬ b = 85 → ¬ b = 86 → ¬ b = 87 → ¬ b = 92 → ¬ b = 93 → M' b = M1 b) → (∀ k, 2 ≤ k → M' 84 k = M1 84 k) → M' 84 0 = 0 → M' 84 1 = Int32.ofNat Rs.length → (∀ k, k < 45 → M' 85 k = M1 88 k) → (∀ k, k < 80 → M' 86 k = M1 89 k) → (∀ k, k < 256 → M' 87 k = M1 90 k) → (∀ k, k < 64 → M' 92 k = if M 85 2 = M1 88 2 ∧ M 85 3 = M1 88 3 then M 92 k else 0) → (∀ k, k < 64 → M' 93 k = -1) → Q (.inl (some (.int (Int32.ofNat Rs.length)))) (M', J, rf_w r, sh_w N, n)) :
    mc_WP (mc_en 104 [.ref 84] (M, J, rf_w r, sh_w N, n)) Q := by
  refine bk_104_0 (mc_inl (cm_treel hB hb (fun M1 K1 hbad g1 => ?_) (fun M1 Rs K1 hC hrl ht g1 => ?_)))
  · refine bk_104_4 ⟨fun _ => hn _ (fun b q1 q2 q3 q4 q5 => by rw [up_ne q1]; exact K1.1 b q1 q2 q3 q4 q5) (fun k q1 q2 q3 => by rw [up_nk (by omega)]; exact K1.2.1 k q2 q3) (fun k q1 q2 => by rw [up_ne (by decide)]; exact K1.2.2 k q1 q2) up_at hbad, fun q => absurd g1 q⟩
  · have e85 : M1 85 = M 85 := K1.1 85 (by decide) (by decide) (by decide) (by decide) (by decide)
    have e92 : M1 92 = M 92 := K1.1 92 (by decide) (by decide) (by decide) (by decide) (by decide)
    have rest : ∀ oth : Int32, (oth = 0 ↔ (M 85 2 = M1 88 2 ∧ M 85 3 = M1 88 3)) → mc_WP (104, 75, [.ref 84, .int oth, .int 0], [], (mc_up (mc_up M1 84 0 0) 84 1 (M1 84 5), J, rf_w r, sh_w N, n), (0, 0)) Q := fun oth hoth => by
      generalize hM2 : mc_up (mc_up M1 84 0 0) 84 1 (M1 84 5) = M2
      have k2 : ∀ b, ¬ b = 84 → M2 b = M1 b := fun b q => by rw [← hM2, up_ne q, up_ne q]
      refine cp_go (C := fun k (i : rl_M) => (104, 75, [.ref 84, .int oth, .int (Int32.ofNat k)], [], (i, J, rf_w r, sh_w N, n), (0, 0))) (d := 85) (e := 88) (len := 45) (by decide) (fun k i hk' ih => ?_) fun M3 k3 c3 => ?_
      · refine bk_104_75 ⟨fun q => absurd ((on_le (k := 45) (by omega) (by omega)).mp q) (by omega), fun _ => ⟨on_vp (by omega) hk', on_vp (by omega) hk', ?_⟩⟩
        rw [on_n (by omega), on_1]; exact ih
      refine bk_104_75 ⟨fun _ => ?_, fun q => absurd (by decide) q⟩
      refine cp_go (C := fun k (i : rl_M) => (104, 101, [.ref 84, .int oth, .int (Int32.ofNat k)], [], (i, J, rf_w r, sh_w N, n), (0, 0))) (d := 86) (e := 89) (len := 80) (by decide) (fun k i hk' ih => ?_) fun M4 k4 c4 => ?_
      · refine bk_104_101 ⟨fun q => absurd ((on_le (k := 80) (by omega) (by omega)).mp q) (by omega), fun _ => ⟨on_vp (by omega) hk', on_vp (by omega) hk', ?_⟩⟩
        rw [on_n (by omega), on_1]; exact ih
      refine bk_104_101 ⟨fun _ => ?_, fun q => absurd (by decide) q⟩
      refine cp_go (C := fun k (i : rl_M) => (104, 127, [.ref 84, .int oth, .int (Int32.ofNat k)], [], (i, J, rf_w r, sh_w N, n), (0, 0))) (d := 87) (e := 90) (len := 256) (by decide) (fun k i hk' ih => ?_) fun M5 k5 c5 => ?_
      · refine bk_104_127 ⟨fun q => absurd ((on_le (k := 256) (by omega) (by omega)).mp q) (by omega), fun _ => ⟨on_vp (by omega) hk', on_vp (by omega) hk', ?_⟩⟩
        rw [on_n (by omega), on_1]; exact ih
      refine bk_104_127 ⟨fun _ => ?_, fun q => absurd (by decide) q⟩
      have f5 : ∀ b, ¬ b = 84 → ¬ b = 85 → ¬ b = 86 → ¬ b = 87 → M5 b = M1 b := fun b q1 q2 q3 q4 => by rw [k5 b q4, k4 b q3, k3 b q2, k2 b q1]
      refine lp_go (C := fun k (i : rl_M) => (104, 154, [.ref 84, .int oth, .int (Int32.ofNat k)], [], (i, J, rf_w r, sh_w N, n), (0, 0))) (P := fun k i => (∀ b, ¬ b = 92 → i b = M5 b) ∧ (∀ j, j < k → i 92 j = if M 85 2 = M1 88 2 ∧ M 85 3 = M1 88 3 then M 92 j else 0) ∧ ∀ j, k ≤ j → i 92 j = M5 92 j) 64 M5 ⟨fun _ _ => rfl, fun j hj => absurd hj (by omega), fun _ _ => rfl⟩ ?_ ?_
      · intro k hk' i ⟨i1, i2, i3⟩ ih
        try dsimp only at ih ⊢
        refine bk_104_154 ⟨fun q => absurd ((on_le (k := 64) (by omega) (by omega)).mp q) (by omega), fun _ => ⟨fun q => ⟨on_vp (by omega) hk', on_vp (by omega) hk', ?_⟩, fun q => ⟨on_vp (by omega) hk', ?_⟩⟩⟩
        · rw [on_n (by omega), on_1]
          refine ih _ ⟨fun b z => by rw [up_ne z]; exact i1 b z, fun j hj => ?_, fun j hj => by rw [up_nk (by omega)]; exact i3 j (by omega)⟩
          by_cases z : j = k
          · rw [z, up_at, if_pos (hoth.mp q), i3 k (Nat.le_refl _), f5 92 (by decide) (by decide) (by decide) (by decide), e92]
          · rw [up_nk z]; exact i2 j (by omega)
        · rw [on_n (by omega), on_1]
          refine ih _ ⟨fun b z => by rw [up_ne z]; exact i1 b z, fun j hj => ?_, fun j hj => by rw [up_nk (by omega)]; exact i3 j (by omega)⟩
          by_cases z : j = k
          · rw [z, up_at, if_neg fun y => q (hoth.mpr y)]
          · rw [up_nk z]; exact i2 j (by omega)
      · intro M6 ⟨i1, i2, i3⟩
        try dsimp only
        refine bk_104_154 ⟨fun _ => mc_inl (dm_clear fun M7 k7 c7 => bk_104_190 ?_), fun q => absurd (by decide) q⟩
        have f7 : ∀ b, ¬ b = 84 → ¬ b = 85 → ¬ b = 86 → ¬ b = 87 → ¬ b = 92 → ¬ b = 93 → M7 b = M1 b := fun b q1 q2 q3 q4 q5 q6 => by rw [k7 b q6, i1 b q5]; exact f5 b q1 q2 q3 q4
        have s84 : ∀ k, M7 84 k = M2 84 k := fun k => by rw [k7 84 (by decide), i1 84 (by decide), k5 84 (by decide), k4 84 (by decide), k3 84 (by decide)]
        have e1 : M7 84 1 = Int32.ofNat Rs.length := by rw [s84, ← hM2, up_at]; exact ht.2.1
        rw [e1]
        refine hk M7 M1 Rs K1 ht hC hrl f7 (fun k hk' => by rw [s84, ← hM2, up_nk (by omega), up_nk (by omega)]) (by rw [s84, ← hM2, up_nk (by decide), up_at]) e1 (fun k hk' => ?_) (fun k hk' => ?_) (fun k hk' => ?_) (fun k hk' => ?_) c7
        · rw [k7 85 (by decide), i1 85 (by decide), k5 85 (by decide), k4 85 (by decide), c3 k hk', k2 88 (by decide)]
        · rw [k7 86 (by decide), i1 86 (by decide), k5 86 (by decide), c4 k hk', k3 89 (by decide), k2 89 (by decide)]
        · rw [k7 87 (by decide), i1 87 (by decide), c5 k hk', k4 90 (by decide), k3 90 (by decide), k2 90 (by decide)]
        · rw [k7 92 (by decide)]; exact i2 k hk'
    refine bk_104_4 ⟨fun q => absurd (g1.symm.trans q) (by decide), fun _ => ?_⟩
    rw [e85]
    refine ⟨fun q => rest 1 ⟨fun z => absurd z (by decide), fun z => absurd z.1 q⟩, fun q => ⟨fun q2 => rest 0 ⟨fun _ => ⟨Classical.not_not.mp q, q2⟩, fun _ => rfl⟩, fun q2 => rest 1 ⟨fun z => absurd z (by decide), fun z => absurd z.2 q2⟩⟩⟩
end
