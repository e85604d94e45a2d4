/-! reduce: lists of colours and how often they come -/
section
abbrev rd_T : Type := Int32 × Int32
/-- a part of a colour, the class's way of taking it and the reference's -/
def pt_v (c p : Int32) : Int32 := (c >>> (((8 : Int32) * ((2 : Int32) - p)) &&& 31)) &&& (255 : Int32)
theorem pt_m {c p : Int32} (hp : p = 0 ∨ p = 1 ∨ p = 2) : (c >>> (((16 : Int32) - ((8 : Int32) * p)) &&& 31)) &&& (255 : Int32) = pt_v c p := by
  unfold pt_v
  rcases hp with rfl | rfl | rfl <;> rfl
theorem pt_b (c p : Int32) : 0 ≤ (pt_v c p).toInt ∧ (pt_v c p).toInt ≤ 255 := i3_byt _
def pt_I (p : Nat) (a : rd_T) : Int := (pt_v a.1 (Int32.ofNat p)).toInt
theorem pt_Ib (p : Nat) (a : rd_T) : 0 ≤ pt_I p a ∧ pt_I p a ≤ 255 := pt_b _ _
def mx_l (p : Nat) : List rd_T → Int
  | [] => -1
  | a :: l => max (pt_I p a) (mx_l p l)
def mn_l (p : Nat) : List rd_T → Int
  | [] => 256
  | a :: l => min (pt_I p a) (mn_l p l)
def sr_l (p : Nat) (l : List rd_T) : Int := mx_l p l - mn_l p l
theorem mx_le {p : Nat} : ∀ {l : List rd_T} {a : rd_T}, a ∈ l → pt_I p a ≤ mx_l p l
  | b :: l, a, h => by
    show _ ≤ max (pt_I p b) (mx_l p l)
    rcases List.mem_cons.mp h with rfl | h
    · omega
    · have := mx_le (p := p) h
      omega
theorem mn_le {p : Nat} : ∀ {l : List rd_T} {a : rd_T}, a ∈ l → mn_l p l ≤ pt_I p a
  | b :: l, a, h => by
    show min (pt_I p b) (mn_l p l) ≤ _
    rcases List.mem_cons.mp h with rfl | h
    · omega
    · have := mn_le (p := p) h
      omega
theorem mx_at {p : Nat} : ∀ {l : List rd_T}, l ≠ [] → ∃ a ∈ l, mx_l p l = pt_I p a
  | [], h => absurd rfl h
  | b :: l, _ => by
    show ∃ a ∈ b :: l, max (pt_I p b) (mx_l p l) = pt_I p a
    by_cases q : mx_l p l ≤ pt_I p b
    · exact ⟨b, List.mem_cons_self, by omega⟩
    · cases l with
      | nil => exact absurd (by have := (pt_Ib p b).1; show (-1 : Int) ≤ _; omega) q
      | cons c l =>
        obtain ⟨a, h1, h2⟩ := mx_at (p := p) (l := c :: l) (by simp)
        exact ⟨a, List.mem_cons_of_mem _ h1, by omega⟩
theorem mn_at {p : Nat} : ∀ {l : List rd_T}, l ≠ [] → ∃ a ∈ l, mn_l p l = pt_I p a
  | [], h => absurd rfl h
  | b :: l, _ => by
    show ∃ a ∈ b :: l, min (pt_I p b) (mn_l p l) = pt_I p a
    by_cases q : pt_I p b ≤ mn_l p l
    · exact ⟨b, List.mem_cons_self, by omega⟩
    · cases l with
      | nil => exact absurd (by have := (pt_Ib p b).2; show _ ≤ (256 : Int); omega) q
      | cons c l =>
        obtain ⟨a, h1, h2⟩ := mn_at (p := p) (l := c :: l) (by simp)
        exact ⟨a, List.mem_cons_of_mem _ h1, by omega⟩
theorem mx_eq {p : Nat} {l m : List rd_T} (hn : l ≠ []) (hm : m ≠ []) (h : ∀ a, a ∈ l ↔ a ∈ m) : mx_l p l = mx_l p m := by
  obtain ⟨a, a1, a2⟩ := mx_at (p := p) hn
  obtain ⟨b, b1, b2⟩ := mx_at (p := p) hm
  have c1 := mx_le (p := p) ((h a).mp a1)
  have c2 := mx_le (p := p) ((h b).mpr b1)
  omega
theorem mn_eq {p : Nat} {l m : List rd_T} (hn : l ≠ []) (hm : m ≠ []) (h : ∀ a, a ∈ l ↔ a ∈ m) : mn_l p l = mn_l p m := by
  obtain ⟨a, a1, a2⟩ := mn_at (p := p) hn
  obtain ⟨b, b1, b2⟩ := mn_at (p := p) hm
  have c1 := mn_le (p := p) ((h a).mp a1)
  have c2 := mn_le (p := p) ((h b).mpr b1)
  omega
theorem sr_perm {p : Nat} {l m : List rd_T} (hn : l ≠ []) (h : l.Perm m) : sr_l p l = sr_l p m := by
  have hm : m ≠ [] := fun q => by rw [q] at h; exact hn h.eq_nil
  unfold sr_l
  rw [mx_eq hn hm (fun a => h.mem_iff), mn_eq hn hm (fun a => h.mem_iff)]
/-- behind one more -/
theorem mx_snoc {p : Nat} {a : rd_T} : ∀ {l : List rd_T}, mx_l p (l ++ [a]) = max (mx_l p l) (pt_I p a)
  | [] => by show max (pt_I p a) (-1) = max (-1) (pt_I p a); omega
  | b :: l => by
    show max (pt_I p b) (mx_l p (l ++ [a])) = max (max (pt_I p b) (mx_l p l)) (pt_I p a)
    rw [mx_snoc (l := l)]
    omega
theorem mn_snoc {p : Nat} {a : rd_T} : ∀ {l : List rd_T}, mn_l p (l ++ [a]) = min (mn_l p l) (pt_I p a)
  | [] => by show min (pt_I p a) 256 = min 256 (pt_I p a); omega
  | b :: l => by
    show min (pt_I p b) (mn_l p (l ++ [a])) = min (min (pt_I p b) (mn_l p l)) (pt_I p a)
    rw [mn_snoc (l := l)]
    omega
/-- sums -/
def sm_l (f : rd_T → Int32) : List rd_T → Int32
  | [] => 0
  | a :: l => f a + sm_l f l
theorem sm_perm {f : rd_T → Int32} {l m : List rd_T} (h : l.Perm m) : sm_l f l = sm_l f m := by
  induction h with
  | nil => rfl
  | cons a _ ih => unfold sm_l; rw [ih]
  | swap a b l => show f b + (f a + sm_l f l) = f a + (f b + sm_l f l); rw [← Int32.add_assoc, ← Int32.add_assoc, Int32.add_comm (f b)]
  | trans _ _ h1 h2 => exact h1.trans h2
theorem sm_snoc {f : rd_T → Int32} {a : rd_T} : ∀ {l : List rd_T}, sm_l f (l ++ [a]) = sm_l f l + f a
  | [] => by show f a + 0 = 0 + f a; rw [Int32.add_zero, Int32.zero_add]
  | b :: l => by show f b + sm_l f (l ++ [a]) = f b + sm_l f l + f a; rw [sm_snoc, Int32.add_assoc]
def sm_I : List rd_T → Int
  | [] => 0
  | a :: l => a.2.toInt + sm_I l
theorem sm_Ip {l m : List rd_T} (h : l.Perm m) : sm_I l = sm_I m := by
  induction h with
  | nil => rfl
  | cons a _ ih => unfold sm_I; rw [ih]
  | swap a b l => show b.2.toInt + (a.2.toInt + sm_I l) = a.2.toInt + (b.2.toInt + sm_I l); omega
  | trans _ _ h1 h2 => exact h1.trans h2
theorem sm_Ia : ∀ {l m : List rd_T}, sm_I (l ++ m) = sm_I l + sm_I m
  | [], m => by show sm_I m = 0 + sm_I m; omega
  | a :: l, m => by show a.2.toInt + sm_I (l ++ m) = a.2.toInt + sm_I l + sm_I m; rw [sm_Ia]; omega
/-- a box: colours that all differ, each at least once there, in all at most sixty-four -/
def rd_G (l : List rd_T) : Prop := l ≠ [] ∧ (∀ a ∈ l, (0 ≤ a.1.toInt ∧ a.1.toInt < 16777216) ∧ 1 ≤ a.2.toInt) ∧ l.Pairwise (fun a b => ¬ a.1 = b.1) ∧ sm_I l ≤ 64
theorem sm_t : ∀ {l : List rd_T}, (∀ a ∈ l, 1 ≤ a.2.toInt) → sm_I l ≤ 64 → (sm_l Prod.snd l).toInt = sm_I l ∧ (l.length : Int) ≤ sm_I l
  | [], _, _ => ⟨rfl, Int.le_refl _⟩
  | a :: l, h, hs => by
    have h1 := h a List.mem_cons_self
    have hs' : a.2.toInt + sm_I l ≤ 64 := hs
    obtain ⟨i1, i2⟩ := sm_t (l := l) (fun b hb => h b (List.mem_cons_of_mem _ hb)) (by omega)
    refine ⟨?_, ?_⟩
    · show (a.2 + sm_l Prod.snd l).toInt = a.2.toInt + sm_I l
      rw [Int32.toInt_add, i1, Int.bmod_def]
      omega
    · show ((l.length + 1 : Nat) : Int) ≤ a.2.toInt + sm_I l
      omega
theorem rd_G.perm {l m : List rd_T} (h : rd_G l) (hp : l.Perm m) : rd_G m := by
  obtain ⟨h1, h2, h3, h4⟩ := h
  refine ⟨fun q => by rw [q] at hp; exact h1 hp.eq_nil, fun a ha => h2 a (hp.mem_iff.mpr ha), ?_, by rw [← sm_Ip hp]; exact h4⟩
  exact (hp.pairwise_iff (fun {a b} hab => fun q => hab q.symm)).mp h3
theorem sr_nn {p : Nat} {l : List rd_T} (h : l ≠ []) : 0 ≤ sr_l p l := by
  obtain ⟨a, a1, a2⟩ := mx_at (p := p) h
  have := mn_le (p := p) a1
  unfold sr_l
  omega
/-- the widest part -/
def wp_l (l : List rd_T) : Nat := if sr_l 0 l < sr_l 1 l then (if sr_l 1 l < sr_l 2 l then 2 else 1) else (if sr_l 0 l < sr_l 2 l then 2 else 0)
theorem wp_3 (l : List rd_T) : wp_l l < 3 := by unfold wp_l; split <;> split <;> decide
theorem wp_perm {l m : List rd_T} (hn : l ≠ []) (h : l.Perm m) : wp_l l = wp_l m := by
  unfold wp_l
  rw [sr_perm hn h, sr_perm hn h, sr_perm hn h]
def ws_l (l : List rd_T) : Int := sr_l (wp_l l) l
theorem ws_perm {l m : List rd_T} (hn : l ≠ []) (h : l.Perm m) : ws_l l = ws_l m := by
  unfold ws_l
  rw [wp_perm hn h, sr_perm hn h]
theorem ws_ge (l : List rd_T) : sr_l 0 l ≤ ws_l l ∧ sr_l 1 l ≤ ws_l l ∧ sr_l 2 l ≤ ws_l l := by
  unfold ws_l wp_l
  split <;> split <;> omega
/-- the key by which a box is ordered -/
def ky_v (p : Nat) (c : Int32) : Int := (pt_v c (Int32.ofNat p)).toInt * 16777216 + c.toInt
theorem ky_lt {p : Nat} {a b : Int32} (ha : 0 ≤ a.toInt ∧ a.toInt < 16777216) (hb : 0 ≤ b.toInt ∧ b.toInt < 16777216) : ky_v p a < ky_v p b ↔ (pt_v a (Int32.ofNat p) < pt_v b (Int32.ofNat p) ∨ (pt_v a (Int32.ofNat p) = pt_v b (Int32.ofNat p) ∧ a < b)) := by
  unfold ky_v
  rw [Int32.lt_iff_toInt_lt, Int32.lt_iff_toInt_lt, ← Int32.toInt_inj]
  omega
theorem ky_inj {p : Nat} {a b : Int32} (ha : 0 ≤ a.toInt ∧ a.toInt < 16777216) (hb : 0 ≤ b.toInt ∧ b.toInt < 16777216) (h : ky_v p a = ky_v p b) : a = b := by
  rw [← Int32.toInt_inj]
  unfold ky_v at h
  have := pt_b a (Int32.ofNat p)
  have := pt_b b (Int32.ofNat p)
  omega
def so_l (p : Nat) (l : List rd_T) : Prop := l.Pairwise (fun a b => ky_v p a.1 < ky_v p b.1)
/-- where the first box ends -/
def bd_is (s : List rd_T) (m : Nat) : Prop := (1 ≤ m ∧ m + 1 ≤ s.length) ∧ (∀ j, 1 ≤ j → j < m → (2 : Int32) * sm_l Prod.snd (s.take j) < sm_l Prod.snd s) ∧ (m + 1 = s.length ∨ ¬ (2 : Int32) * sm_l Prod.snd (s.take m) < sm_l Prod.snd s)
end
