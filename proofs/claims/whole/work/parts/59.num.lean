/-! numbers -/
theorem i3_0 : (0 : Int32).toInt = 0 := rfl
theorem i3_1 : (1 : Int32).toInt = 1 := rfl
theorem i3_2 : (2 : Int32).toInt = 2 := rfl
theorem i3_3 : (3 : Int32).toInt = 3 := rfl
theorem i3_4 : (4 : Int32).toInt = 4 := rfl
theorem i3_5 : (5 : Int32).toInt = 5 := rfl
theorem i3_6 : (6 : Int32).toInt = 6 := rfl
theorem i3_7 : (7 : Int32).toInt = 7 := rfl
theorem i3_8 : (8 : Int32).toInt = 8 := rfl
theorem i3_9 : (9 : Int32).toInt = 9 := rfl
theorem i3_10 : (10 : Int32).toInt = 10 := rfl
theorem i3_15 : (15 : Int32).toInt = 15 := rfl
theorem i3_16 : (16 : Int32).toInt = 16 := rfl
theorem i3_19 : (19 : Int32).toInt = 19 := rfl
theorem i3_20 : (20 : Int32).toInt = 20 := rfl
theorem i3_24 : (24 : Int32).toInt = 24 := rfl
theorem i3_31 : (31 : Int32).toInt = 31 := rfl
theorem i3_33 : (33 : Int32).toInt = 33 := rfl
theorem i3_44 : (44 : Int32).toInt = 44 := rfl
theorem i3_45 : (45 : Int32).toInt = 45 := rfl
theorem i3_48 : (48 : Int32).toInt = 48 := rfl
theorem i3_49 : (49 : Int32).toInt = 49 := rfl
theorem i3_59 : (59 : Int32).toInt = 59 := rfl
theorem i3_63 : (63 : Int32).toInt = 63 := rfl
theorem i3_64 : (64 : Int32).toInt = 64 := rfl
theorem i3_80 : (80 : Int32).toInt = 80 := rfl
theorem i3_100 : (100 : Int32).toInt = 100 := rfl
theorem i3_192 : (192 : Int32).toInt = 192 := rfl
theorem i3_200000 : (200000 : Int32).toInt = 200000 := rfl
theorem i3_254 : (254 : Int32).toInt = 254 := rfl
theorem i3_255 : (255 : Int32).toInt = 255 := rfl
theorem i3_256 : (256 : Int32).toInt = 256 := rfl
theorem i3_800 : (800 : Int32).toInt = 800 := rfl
theorem i3_16777215 : (16777215 : Int32).toInt = 16777215 := rfl
theorem i3_16777216 : (16777216 : Int32).toInt = 16777216 := rfl
theorem i3_m1 : (-1 : Int32).toInt = -1 := rfl
theorem vp_iff {i : Int32} {m : Nat} : vp_in i m ↔ 0 ≤ i.toInt ∧ i.toInt < m := by
  unfold vp_in
  rw [← Int32.toNat_toInt]
  simp only [Int32.lt_iff_toInt_lt, i3_0]
  omega
theorem i3_tn (i : Int32) : i.toNatClampNeg = i.toInt.toNat := (Int32.toNat_toInt i).symm
theorem i3_eq {a b : Int32} : a = b ↔ a.toInt = b.toInt := Int32.toInt_inj.symm
