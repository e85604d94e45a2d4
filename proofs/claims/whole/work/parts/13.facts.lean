def pg_lp (ci k : Nat) : Nat := mc_nth (mc_nth [[388, 390, 392, 394, 396, 398, 400, 402], [194, 196], [39, 41], [286, 288, 290], [126, 128, 130, 132, 134, 136, 138, 140, 142, 144], [253, 255, 257, 259, 261, 263], [66, 68], [301, 303, 305, 307, 309, 311, 313, 315], [335, 337, 339, 341, 343, 345, 347, 349, 351, 353, 355], [167, 169, 171, 173, 175], [228, 230, 232, 234, 236, 238, 240, 242], [1075, 1077, 1079, 1081, 1083, 1085, 1087, 1089, 1091, 1093, 1095, 1097, 1099, 1101, 1103, 1105, 1107, 1109, 1111, 1113, 1115, 1117, 1119, 1121, 1123, 1125, 1127, 1129, 1131, 1133, 1135, 1137, 1139, 1141, 1143]] ci []) k 0
def pg_cp : List Nat := [23, 179, 31, 277, 73, 200, 52, 267, 319, 46, 206, 1031]
theorem fc_lay0 : ∀ k, k < 8 → tables_1[pg_lp 0 k]? = some (u_lay "PaletteReel" fd_0 k) := by decide +kernel
theorem fc_one0 : ∀ a, a < 8 → ∀ b, b < 8 → a ≠ b → (fd_0 a).2.1 ≠ (fd_0 b).2.1 := by decide +kernel
theorem fc_dec0 : ∀ k, k < 8 → parseFieldDescriptor (fd_0 k).2.2.1 = some (pg_ft 0 k) ∧ (fd_0 k).1 = "PaletteReel" ∧ (pg_fk 0 k = 2 → isReferenceType (pg_ft 0 k) = true) ∧ (pg_fk 0 k = 1 → pg_ft 0 k = .boolean) ∧ (¬ pg_fk 0 k = 2 → ¬ pg_fk 0 k = 1 → pg_ft 0 k = .int) := by decide +kernel
theorem fc_lay1 : ∀ k, k < 2 → tables_1[pg_lp 1 k]? = some (u_lay "PaletteReel$ByteRow" fd_1 k) := by decide +kernel
theorem fc_one1 : ∀ a, a < 2 → ∀ b, b < 2 → a ≠ b → (fd_1 a).2.1 ≠ (fd_1 b).2.1 := by decide +kernel
theorem fc_dec1 : ∀ k, k < 2 → parseFieldDescriptor (fd_1 k).2.2.1 = some (pg_ft 1 k) ∧ (fd_1 k).1 = "PaletteReel$ByteRow" ∧ (pg_fk 1 k = 2 → isReferenceType (pg_ft 1 k) = true) ∧ (pg_fk 1 k = 1 → pg_ft 1 k = .boolean) ∧ (¬ pg_fk 1 k = 2 → ¬ pg_fk 1 k = 1 → pg_ft 1 k = .int) := by decide +kernel
theorem fc_lay2 : ∀ k, k < 2 → tables_1[pg_lp 2 k]? = some (u_lay "PaletteReel$Canvas" fd_2 k) := by decide +kernel
theorem fc_one2 : ∀ a, a < 2 → ∀ b, b < 2 → a ≠ b → (fd_2 a).2.1 ≠ (fd_2 b).2.1 := by decide +kernel
theorem fc_dec2 : ∀ k, k < 2 → parseFieldDescriptor (fd_2 k).2.2.1 = some (pg_ft 2 k) ∧ (fd_2 k).1 = "PaletteReel$Canvas" ∧ (pg_fk 2 k = 2 → isReferenceType (pg_ft 2 k) = true) ∧ (pg_fk 2 k = 1 → pg_ft 2 k = .boolean) ∧ (¬ pg_fk 2 k = 2 → ¬ pg_fk 2 k = 1 → pg_ft 2 k = .int) := by decide +kernel
theorem fc_lay3 : ∀ k, k < 3 → tables_1[pg_lp 3 k]? = some (u_lay "PaletteReel$Cursor" fd_3 k) := by decide +kernel
theorem fc_one3 : ∀ a, a < 3 → ∀ b, b < 3 → a ≠ b → (fd_3 a).2.1 ≠ (fd_3 b).2.1 := by decide +kernel
theorem fc_dec3 : ∀ k, k < 3 → parseFieldDescriptor (fd_3 k).2.2.1 = some (pg_ft 3 k) ∧ (fd_3 k).1 = "PaletteReel$Cursor" ∧ (pg_fk 3 k = 2 → isReferenceType (pg_ft 3 k) = true) ∧ (pg_fk 3 k = 1 → pg_ft 3 k = .boolean) ∧ (¬ pg_fk 3 k = 2 → ¬ pg_fk 3 k = 1 → pg_ft 3 k = .int) := by decide +kernel
theorem fc_lay4 : ∀ k, k < 10 → tables_1[pg_lp 4 k]? = some (u_lay "PaletteReel$Frame" fd_4 k) := by decide +kernel
theorem fc_one4 : ∀ a, a < 10 → ∀ b, b < 10 → a ≠ b → (fd_4 a).2.1 ≠ (fd_4 b).2.1 := by decide +kernel
theorem fc_dec4 : ∀ k, k < 10 → parseFieldDescriptor (fd_4 k).2.2.1 = some (pg_ft 4 k) ∧ (fd_4 k).1 = "PaletteReel$Frame" ∧ (pg_fk 4 k = 2 → isReferenceType (pg_ft 4 k) = true) ∧ (pg_fk 4 k = 1 → pg_ft 4 k = .boolean) ∧ (¬ pg_fk 4 k = 2 → ¬ pg_fk 4 k = 1 → pg_ft 4 k = .int) := by decide +kernel
theorem fc_lay5 : ∀ k, k < 6 → tables_1[pg_lp 5 k]? = some (u_lay "PaletteReel$Packer" fd_5 k) := by decide +kernel
theorem fc_one5 : ∀ a, a < 6 → ∀ b, b < 6 → a ≠ b → (fd_5 a).2.1 ≠ (fd_5 b).2.1 := by decide +kernel
theorem fc_dec5 : ∀ k, k < 6 → parseFieldDescriptor (fd_5 k).2.2.1 = some (pg_ft 5 k) ∧ (fd_5 k).1 = "PaletteReel$Packer" ∧ (pg_fk 5 k = 2 → isReferenceType (pg_ft 5 k) = true) ∧ (pg_fk 5 k = 1 → pg_ft 5 k = .boolean) ∧ (¬ pg_fk 5 k = 2 → ¬ pg_fk 5 k = 1 → pg_ft 5 k = .int) := by decide +kernel
theorem fc_lay6 : ∀ k, k < 2 → tables_1[pg_lp 6 k]? = some (u_lay "PaletteReel$Palette" fd_6 k) := by decide +kernel
theorem fc_one6 : ∀ a, a < 2 → ∀ b, b < 2 → a ≠ b → (fd_6 a).2.1 ≠ (fd_6 b).2.1 := by decide +kernel
theorem fc_dec6 : ∀ k, k < 2 → parseFieldDescriptor (fd_6 k).2.2.1 = some (pg_ft 6 k) ∧ (fd_6 k).1 = "PaletteReel$Palette" ∧ (pg_fk 6 k = 2 → isReferenceType (pg_ft 6 k) = true) ∧ (pg_fk 6 k = 1 → pg_ft 6 k = .boolean) ∧ (¬ pg_fk 6 k = 2 → ¬ pg_fk 6 k = 1 → pg_ft 6 k = .int) := by decide +kernel
theorem fc_lay7 : ∀ k, k < 8 → tables_1[pg_lp 7 k]? = some (u_lay "PaletteReel$Parser" fd_7 k) := by decide +kernel
theorem fc_one7 : ∀ a, a < 8 → ∀ b, b < 8 → a ≠ b → (fd_7 a).2.1 ≠ (fd_7 b).2.1 := by decide +kernel
theorem fc_dec7 : ∀ k, k < 8 → parseFieldDescriptor (fd_7 k).2.2.1 = some (pg_ft 7 k) ∧ (fd_7 k).1 = "PaletteReel$Parser" ∧ (pg_fk 7 k = 2 → isReferenceType (pg_ft 7 k) = true) ∧ (pg_fk 7 k = 1 → pg_ft 7 k = .boolean) ∧ (¬ pg_fk 7 k = 2 → ¬ pg_fk 7 k = 1 → pg_ft 7 k = .int) := by decide +kernel
theorem fc_lay8 : ∀ k, k < 11 → tables_1[pg_lp 8 k]? = some (u_lay "PaletteReel$Reducer" fd_8 k) := by decide +kernel
theorem fc_one8 : ∀ a, a < 11 → ∀ b, b < 11 → a ≠ b → (fd_8 a).2.1 ≠ (fd_8 b).2.1 := by decide +kernel
theorem fc_dec8 : ∀ k, k < 11 → parseFieldDescriptor (fd_8 k).2.2.1 = some (pg_ft 8 k) ∧ (fd_8 k).1 = "PaletteReel$Reducer" ∧ (pg_fk 8 k = 2 → isReferenceType (pg_ft 8 k) = true) ∧ (pg_fk 8 k = 1 → pg_ft 8 k = .boolean) ∧ (¬ pg_fk 8 k = 2 → ¬ pg_fk 8 k = 1 → pg_ft 8 k = .int) := by decide +kernel
theorem fc_lay9 : ∀ k, k < 5 → tables_1[pg_lp 9 k]? = some (u_lay "PaletteReel$Reel" fd_9 k) := by decide +kernel
theorem fc_one9 : ∀ a, a < 5 → ∀ b, b < 5 → a ≠ b → (fd_9 a).2.1 ≠ (fd_9 b).2.1 := by decide +kernel
theorem fc_dec9 : ∀ k, k < 5 → parseFieldDescriptor (fd_9 k).2.2.1 = some (pg_ft 9 k) ∧ (fd_9 k).1 = "PaletteReel$Reel" ∧ (pg_fk 9 k = 2 → isReferenceType (pg_ft 9 k) = true) ∧ (pg_fk 9 k = 1 → pg_ft 9 k = .boolean) ∧ (¬ pg_fk 9 k = 2 → ¬ pg_fk 9 k = 1 → pg_ft 9 k = .int) := by decide +kernel
theorem fc_lay10 : ∀ k, k < 8 → tables_1[pg_lp 10 k]? = some (u_lay "PaletteReel$Strings" fd_10 k) := by decide +kernel
theorem fc_one10 : ∀ a, a < 8 → ∀ b, b < 8 → a ≠ b → (fd_10 a).2.1 ≠ (fd_10 b).2.1 := by decide +kernel
theorem fc_dec10 : ∀ k, k < 8 → parseFieldDescriptor (fd_10 k).2.2.1 = some (pg_ft 10 k) ∧ (fd_10 k).1 = "PaletteReel$Strings" ∧ (pg_fk 10 k = 2 → isReferenceType (pg_ft 10 k) = true) ∧ (pg_fk 10 k = 1 → pg_ft 10 k = .boolean) ∧ (¬ pg_fk 10 k = 2 → ¬ pg_fk 10 k = 1 → pg_ft 10 k = .int) := by decide +kernel
theorem fc_lay11 : ∀ k, k < 35 → tables_1[pg_lp 11 k]? = some (u_lay "PaletteReelModel" fd_11 k) := by decide +kernel
theorem fc_one11 : ∀ a, a < 35 → ∀ b, b < 35 → a ≠ b → (fd_11 a).2.1 ≠ (fd_11 b).2.1 := by decide +kernel
theorem fc_dec11 : ∀ k, k < 35 → parseFieldDescriptor (fd_11 k).2.2.1 = some (pg_ft 11 k) ∧ (fd_11 k).1 = "PaletteReelModel" ∧ (pg_fk 11 k = 2 → isReferenceType (pg_ft 11 k) = true) ∧ (pg_fk 11 k = 1 → pg_ft 11 k = .boolean) ∧ (¬ pg_fk 11 k = 2 → ¬ pg_fk 11 k = 1 → pg_ft 11 k = .int) := by decide +kernel
theorem pg_cl_cases {P : Nat → vw_C → Prop} (h : P 0 ("PaletteReel", fd_0, 8) ∧ P 1 ("PaletteReel$ByteRow", fd_1, 2) ∧ P 2 ("PaletteReel$Canvas", fd_2, 2) ∧ P 3 ("PaletteReel$Cursor", fd_3, 3) ∧ P 4 ("PaletteReel$Frame", fd_4, 10) ∧ P 5 ("PaletteReel$Packer", fd_5, 6) ∧ P 6 ("PaletteReel$Palette", fd_6, 2) ∧ P 7 ("PaletteReel$Parser", fd_7, 8) ∧ P 8 ("PaletteReel$Reducer", fd_8, 11) ∧ P 9 ("PaletteReel$Reel", fd_9, 5) ∧ P 10 ("PaletteReel$Strings", fd_10, 8) ∧ P 11 ("PaletteReelModel", fd_11, 35)) {ci : Nat} {r : vw_C} (hr : pg_cl[ci]? = some r) : P ci r := by
  have hl : ci < 12 := (List.getElem?_eq_some_iff.mp hr).1
  obtain ⟨h0, h1, h2, h3, h4, h5, h6, h7, h8, h9, h10, h11⟩ := h
  match ci, hl, hr with
  | 0, _, hr => cases hr; exact h0
  | 1, _, hr => cases hr; exact h1
  | 2, _, hr => cases hr; exact h2
  | 3, _, hr => cases hr; exact h3
  | 4, _, hr => cases hr; exact h4
  | 5, _, hr => cases hr; exact h5
  | 6, _, hr => cases hr; exact h6
  | 7, _, hr => cases hr; exact h7
  | 8, _, hr => cases hr; exact h8
  | 9, _, hr => cases hr; exact h9
  | 10, _, hr => cases hr; exact h10
  | 11, _, hr => cases hr; exact h11
theorem pg_lays {ci : Nat} {r : vw_C} (hr : pg_cl[ci]? = some r) : ∀ k, k < r.2.2 → tables_1[pg_lp ci k]? = some (u_lay r.1 r.2.1 k) := pg_cl_cases (P := fun ci r => ∀ k, k < r.2.2 → tables_1[pg_lp ci k]? = some (u_lay r.1 r.2.1 k)) ⟨fc_lay0, fc_lay1, fc_lay2, fc_lay3, fc_lay4, fc_lay5, fc_lay6, fc_lay7, fc_lay8, fc_lay9, fc_lay10, fc_lay11⟩ hr
theorem pg_ones {ci : Nat} {r : vw_C} (hr : pg_cl[ci]? = some r) : ∀ a, a < r.2.2 → ∀ b, b < r.2.2 → a ≠ b → (r.2.1 a).2.1 ≠ (r.2.1 b).2.1 := pg_cl_cases (P := fun ci r => ∀ a, a < r.2.2 → ∀ b, b < r.2.2 → a ≠ b → (r.2.1 a).2.1 ≠ (r.2.1 b).2.1) ⟨fc_one0, fc_one1, fc_one2, fc_one3, fc_one4, fc_one5, fc_one6, fc_one7, fc_one8, fc_one9, fc_one10, fc_one11⟩ hr
theorem pg_decs {ci : Nat} {r : vw_C} (hr : pg_cl[ci]? = some r) : ∀ k, k < r.2.2 → parseFieldDescriptor (r.2.1 k).2.2.1 = some (pg_ft ci k) ∧ (r.2.1 k).1 = r.1 ∧ (pg_fk ci k = 2 → isReferenceType (pg_ft ci k) = true) ∧ (pg_fk ci k = 1 → pg_ft ci k = .boolean) ∧ (¬ pg_fk ci k = 2 → ¬ pg_fk ci k = 1 → pg_ft ci k = .int) := pg_cl_cases (P := fun ci r => ∀ k, k < r.2.2 → parseFieldDescriptor (r.2.1 k).2.2.1 = some (pg_ft ci k) ∧ (r.2.1 k).1 = r.1 ∧ (pg_fk ci k = 2 → isReferenceType (pg_ft ci k) = true) ∧ (pg_fk ci k = 1 → pg_ft ci k = .boolean) ∧ (¬ pg_fk ci k = 2 → ¬ pg_fk ci k = 1 → pg_ft ci k = .int)) ⟨fc_dec0, fc_dec1, fc_dec2, fc_dec3, fc_dec4, fc_dec5, fc_dec6, fc_dec7, fc_dec8, fc_dec9, fc_dec10, fc_dec11⟩ hr
theorem pg_uws {ci : Nat} {r : vw_C} (hr : pg_cl[ci]? = some r) : ∀ x ∈ u_ws r.1 r.2.1 r.2.2, x ∈ pg_ws := by
  intro x hx
  obtain ⟨k, hk, rfl⟩ := List.mem_map.mp hx
  refine pg_in ?_ (List.mem_of_getElem? (pg_lays hr k (List.mem_range.mp hk)))
  unfold u_lay
  split <;> rfl
