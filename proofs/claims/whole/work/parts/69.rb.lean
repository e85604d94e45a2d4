section
variable {I : rl_M} {J : Nat → Nat → Int64} {r N n : Nat} {Q : mc_Q} {x4 : Int32} {x5 x6 : Value} {u : mc_U} {x1 x2 x3 x y v b d : Int32} {f k g o : Nat}
variable {c c' : rl_M} {hs hs' cs cs' ps ps' : rl_A} {m : Int32}
theorem rb_pal.congr (h : rb_pal c hs cs o g) (e1 : hs' (9 * g + 4) = hs (9 * g + 4)) (e2 : c' o 1 = c o 1) (e3 : ∀ k, k < 16 → c' (o + 1) k = c (o + 1) k) (e4 : ∀ k, k < 16 → cs' (16 * g + k) = cs (16 * g + k)) : rb_pal c' hs' cs' o g := by
  obtain ⟨h1, h2, h3⟩ := h
  refine ⟨by rw [e1]; exact h1, by rw [e1, e2]; exact h2, fun k hk => ?_⟩
  rw [e1, e3 k hk, e4 k hk]
  exact h3 k hk
theorem rb_n_eq (e0 : hs' 4 = hs 4) (e4 : hs' (9 * (f + 1) + 4) = hs (9 * (f + 1) + 4)) : rb_n hs' f = rb_n hs f := by
  unfold rb_n
  rw [e0, e4]
theorem rb_px.congr (h : rb_px c hs ps f) (e2 : hs' (9 * (f + 1) + 2) = hs (9 * (f + 1) + 2)) (e3 : hs' (9 * (f + 1) + 3) = hs (9 * (f + 1) + 3)) (en : rb_n hs' f = rb_n hs f) (ec : ∀ k, k < 64 → c' (4 + 4 * f + 1) k = c (4 + 4 * f + 1) k) (ep : ∀ k, k < 64 → ps' (64 * f + k) = ps (64 * f + k)) : rb_px c' hs' ps' f := by
  intro yy hy z hz
  have := h yy hy z hz
  rw [e2, e3, en, ec _ (by omega), Nat.add_assoc (64 * f), ep _ (by omega), ← Nat.add_assoc]
  exact this
/-- nothing of the frame has changed but, it may be, disposal, delay, clear, woven -/
theorem rb_F.congr (h : rb_F c hs cs ps f) (ec : ∀ k, k < 6 → c' (4 + 4 * f) k = c (4 + 4 * f) k) (eh : ∀ k, k < 5 → hs' (9 * (f + 1) + k) = hs (9 * (f + 1) + k)) (en : rb_n hs' f = rb_n hs f)
    (es : ∀ k, k < 4 → c' (4 + 4 * f) (6 + k) = hs' (9 * (f + 1) + 5 + k)) (er : (0 ≤ (hs' (9 * (f + 1) + 5)).toInt ∧ (hs' (9 * (f + 1) + 5)).toInt ≤ 3) ∧ (0 ≤ (hs' (9 * (f + 1) + 6)).toInt ∧ (hs' (9 * (f + 1) + 6)).toInt ≤ 255) ∧ (-1 ≤ (hs' (9 * (f + 1) + 7)).toInt ∧ (hs' (9 * (f + 1) + 7)).toInt < (rb_n hs f).toInt) ∧ (hs' (9 * (f + 1) + 8) = 0 ∨ hs' (9 * (f + 1) + 8) = 1))
    (e1 : ∀ k, k < 64 → c' (4 + 4 * f + 1) k = c (4 + 4 * f + 1) k) (e2 : c' (4 + 4 * f + 2) 1 = c (4 + 4 * f + 2) 1) (e3 : ∀ k, k < 16 → c' (4 + 4 * f + 2 + 1) k = c (4 + 4 * f + 2 + 1) k) (e4 : ∀ k, k < 16 → cs' (16 * (f + 1) + k) = cs (16 * (f + 1) + k)) (ep : ∀ k, k < 64 → ps' (64 * f + k) = ps (64 * f + k)) : rb_F c' hs' cs' ps' f := by
  obtain ⟨a1, a2, a3, a4, a5, a6, a7, a8, a9, a10, a11, a12⟩ := h
  obtain ⟨r1, r2, r3, r4⟩ := er
  have w0 := eh 0 (by decide)
  rw [Nat.add_zero] at w0
  have w1 := eh 1 (by decide)
  have w2 := eh 2 (by decide)
  have w3 := eh 3 (by decide)
  have w4 := eh 4 (by decide)
  refine ⟨fun k hk => by rw [ec _ (by omega), eh k (by omega)]; exact a1 k hk, es, by rw [w0]; exact a3, by rw [w1]; exact a4, by rw [w2]; exact a5, by rw [w3]; exact a6, r1, r2, by rw [en]; exact r3, r4, a11.congr w4 e2 e3 e4, a12.congr w2 w3 en e1 ep⟩
theorem rb_F.same (h : rb_F c hs cs ps f) (ec : ∀ k, k < 10 → c' (4 + 4 * f) k = c (4 + 4 * f) k) (eh : ∀ k, k < 9 → hs' (9 * (f + 1) + k) = hs (9 * (f + 1) + k)) (en : rb_n hs' f = rb_n hs f)
    (e1 : ∀ k, k < 64 → c' (4 + 4 * f + 1) k = c (4 + 4 * f + 1) k) (e2 : c' (4 + 4 * f + 2) 1 = c (4 + 4 * f + 2) 1) (e3 : ∀ k, k < 16 → c' (4 + 4 * f + 2 + 1) k = c (4 + 4 * f + 2 + 1) k) (e4 : ∀ k, k < 16 → cs' (16 * (f + 1) + k) = cs (16 * (f + 1) + k)) (ep : ∀ k, k < 64 → ps' (64 * f + k) = ps (64 * f + k)) : rb_F c' hs' cs' ps' f := by
  have h0 := h
  obtain ⟨a1, a2, a3, a4, a5, a6, a7, a8, a9, a10, a11, a12⟩ := h
  refine h0.congr (fun k hk => ec k (by omega)) (fun k hk => eh k (by omega)) en (fun k hk => ?_) ?_ e1 e2 e3 e4 ep
  · rw [ec _ (by omega), Nat.add_assoc, eh _ (by omega), ← Nat.add_assoc]
    exact a2 k hk
  · have w5 := eh 5 (by decide)
    have w6 := eh 6 (by decide)
    have w7 := eh 7 (by decide)
    have w8 := eh 8 (by decide)
    rw [w5, w6, w7, w8]
    exact ⟨a7, a8, a9, a10⟩
/-- the settings of frame f become others -/
theorem rb_R.setting (hR : rb_R c m hs cs ps) (hf : f < 4) (hm : (f : Int) < m.toInt) (ec : ∀ o k, ¬ (o = 4 + 4 * f ∧ 6 ≤ k ∧ k ≤ 9) → c' o k = c o k) (eh : ∀ k, ¬ (9 * (f + 1) + 5 ≤ k ∧ k ≤ 9 * (f + 1) + 8) → hs' k = hs k)
    (es : ∀ k, k < 4 → c' (4 + 4 * f) (6 + k) = hs' (9 * (f + 1) + 5 + k)) (er : (0 ≤ (hs' (9 * (f + 1) + 5)).toInt ∧ (hs' (9 * (f + 1) + 5)).toInt ≤ 3) ∧ (0 ≤ (hs' (9 * (f + 1) + 6)).toInt ∧ (hs' (9 * (f + 1) + 6)).toInt ≤ 255) ∧ (-1 ≤ (hs' (9 * (f + 1) + 7)).toInt ∧ (hs' (9 * (f + 1) + 7)).toInt < (rb_n hs f).toInt) ∧ (hs' (9 * (f + 1) + 8) = 0 ∨ hs' (9 * (f + 1) + 8) = 1)) : rb_R c' m hs' cs ps := by
  obtain ⟨g1, g2, g3, g4, g5, g6, g7, g8, g9, g10⟩ := hR
  have hk : ∀ k, k < 9 → hs' k = hs k := fun k hk => eh k (by omega)
  refine ⟨g1, by rw [ec _ _ (by omega)]; exact g2, by rw [ec _ _ (by omega), hk 2 (by decide)]; exact g3, by rw [ec _ _ (by omega), hk 3 (by decide)]; exact g4, by rw [hk 2 (by decide)]; exact g5, by rw [hk 3 (by decide)]; exact g6,
    by rw [hk 0 (by decide), hk 1 (by decide), hk 5 (by decide), hk 6 (by decide), hk 7 (by decide), hk 8 (by decide)]; exact g7, by rw [hk 4 (by decide)]; exact g8, g9.congr (hk 4 (by decide)) (ec _ _ (by omega)) (fun k _ => ec _ _ (by omega)) (fun k _ => rfl), fun f' hf' => ?_⟩
  have hn : rb_n hs' f' = rb_n hs f' := rb_n_eq (hk 4 (by decide)) (eh _ (by omega))
  by_cases e : f' = f
  · subst e
    exact (g10 f' hf').congr (fun k hk => ec _ _ (by omega)) (fun k hk => eh _ (by omega)) hn es er (fun k hk => ec _ _ (by omega)) (ec _ _ (by omega)) (fun k hk => ec _ _ (by omega)) (fun k _ => rfl) (fun k _ => rfl)
  · exact (g10 f' hf').same (fun k hk => ec _ _ (by omega)) (fun k hk => eh _ (by omega)) hn (fun k hk => ec _ _ (by omega)) (ec _ _ (by omega)) (fun k hk => ec _ _ (by omega)) (fun k _ => rfl) (fun k _ => rfl)
/-- pixel (z, yy) of frame f becomes v -/
theorem rb_R.pixel (hR : rb_R c m hs cs ps) {yy z : Nat} (hf : f < 4) (hm : (f : Int) < m.toInt) (hy : yy < 8) (hz : z < 8) (hv : 0 ≤ v.toInt ∧ v.toInt < (rb_n hs f).toInt) (hin : (z : Int) < (hs (9 * (f + 1) + 2)).toInt ∧ (yy : Int) < (hs (9 * (f + 1) + 3)).toInt) : rb_R (mc_up c (4 + 4 * f + 1) (8 * yy + z) v) m hs cs (fun j => if j = 64 * f + 8 * yy + z then v else ps j) := by
  obtain ⟨g1, g2, g3, g4, g5, g6, g7, g8, g9, g10⟩ := hR
  refine ⟨g1, by rw [up_ne (by omega)]; exact g2, by rw [up_ne (by omega)]; exact g3, by rw [up_ne (by omega)]; exact g4, g5, g6, g7, g8, g9.congr rfl (by rw [up_ne (by omega)]) (fun k _ => by rw [up_ne (by omega)]) (fun k _ => rfl), fun f' hf' => ?_⟩
  by_cases e : f' = f
  · subst e
    obtain ⟨a1, a2, a3, a4, a5, a6, a7, a8, a9, a10, a11, a12⟩ := g10 f' hf'
    refine ⟨fun k hk => by rw [up_ne (by omega)]; exact a1 k hk, fun k hk => by rw [up_ne (by omega)]; exact a2 k hk, a3, a4, a5, a6, a7, a8, a9, a10, a11.congr rfl (by rw [up_ne (by omega)]) (fun k _ => by rw [up_ne (by omega)]) (fun k _ => rfl), ?_⟩
    intro y' hy' z' hz'
    show ((z' : Int) < _ ∧ (y' : Int) < _ → mc_up c (4 + 4 * f' + 1) (8 * yy + z) v (4 + 4 * f' + 1) (8 * y' + z') = (if 64 * f' + 8 * y' + z' = 64 * f' + 8 * yy + z then v else ps (64 * f' + 8 * y' + z')) ∧ 0 ≤ (if 64 * f' + 8 * y' + z' = 64 * f' + 8 * yy + z then v else ps (64 * f' + 8 * y' + z')).toInt ∧ (if 64 * f' + 8 * y' + z' = 64 * f' + 8 * yy + z then v else ps (64 * f' + 8 * y' + z')).toInt < _) ∧ (_ → mc_up c (4 + 4 * f' + 1) (8 * yy + z) v (4 + 4 * f' + 1) (8 * y' + z') = 0)
    by_cases e : 8 * y' + z' = 8 * yy + z
    · have ey : y' = yy := by omega
      have ez : z' = z := by omega
      subst ey; subst ez
      rw [up_at, if_pos rfl]
      exact ⟨fun _ => ⟨rfl, hv⟩, fun q => absurd hin q⟩
    · rw [up_nk e, if_neg (by omega)]
      exact a12 y' hy' z' hz'
  · refine (g10 f' hf').same (fun k hk => by rw [up_ne (by omega)]) (fun k hk => rfl) rfl (fun k hk => by rw [up_ne (by omega)]) (by rw [up_ne (by omega)]) (fun k hk => by rw [up_ne (by omega)]) (fun k _ => rfl) (fun k hk => ?_)
    show (if 64 * f' + k = 64 * f + 8 * yy + z then v else ps (64 * f' + k)) = _
    rw [if_neg (by omega)]
end
