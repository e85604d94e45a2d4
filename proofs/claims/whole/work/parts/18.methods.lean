def pg_np (mi : Nat) : Nat := mc_nth [2, 2, 3, 4, 4, 5, 2, 2, 3, 0, 1, 2, 3, 2, 1, 1, 3, 2, 0, 2, 1, 0, 0, 1, 0, 1, 1, 0, 0, 4, 4, 6, 5, 6, 4, 4, 5, 2, 3, 4, 4, 4, 1, 0, 0, 0, 2, 0, 2, 1, 1, 3, 4, 2, 2, 1, 0, 3, 1, 0, 1, 1, 2, 2, 3, 4, 4, 3, 4, 5, 0, 0, 2, 2, 2, 3, 3, 1, 0, 0, 1, 1, 1, 1, 1, 3, 2, 2, 1, 1, 0, 2, 0, 2, 1, 2, 1, 0, 0, 2, 3, 3, 1, 0, 0, 3, 1, 1, 1, 2, 2, 3, 2, 0, 2, 1, 0, 1, 3, 1, 1, 4, 3, 4, 2, 1, 1, 0, 2, 0, 3, 2, 2, 1, 0, 0, 0, 0, 2, 1, 4, 1, 1, 1, 1, 1, 1, 1, 2, 2, 3, 1, 2, 0, 1, 2, 1, 1, 1, 1, 0, 0, 1, 1, 1, 1, 0, 4, 3, 2, 1, 1, 0, 1, 2, 1, 2, 3, 2, 1, 1, 1, 2, 1, 2, 0, 1, 5, 5, 3, 4, 1, 2, 1, 1, 1, 0, 0, 0, 0, 1, 1, 1, 2, 2, 2] mi 0
def pg_kd (mi : Nat) : Nat := mc_nth [2, 1, 1, 1, 1, 1, 1, 1, 1, 1, 1, 1, 1, 1, 1, 1, 1, 1, 1, 2, 2, 2, 2, 2, 2, 2, 2, 2, 2, 0, 0, 0, 0, 0, 0, 0, 0, 0, 0, 0, 0, 0, 0, 1, 1, 1, 1, 1, 1, 1, 1, 0, 0, 0, 0, 0, 1, 0, 1, 1, 1, 1, 1, 1, 1, 1, 1, 1, 1, 1, 1, 1, 1, 1, 1, 1, 0, 1, 1, 1, 1, 1, 1, 1, 1, 1, 1, 1, 1, 1, 1, 1, 1, 1, 1, 1, 1, 1, 1, 1, 1, 1, 1, 1, 1, 1, 1, 1, 1, 1, 1, 1, 0, 1, 1, 1, 1, 1, 1, 1, 0, 1, 1, 1, 1, 1, 1, 1, 1, 1, 1, 1, 1, 2, 1, 1, 1, 1, 1, 1, 1, 1, 1, 1, 1, 1, 1, 1, 1, 1, 1, 1, 1, 1, 1, 1, 1, 1, 1, 1, 1, 1, 1, 1, 1, 1, 1, 1, 1, 1, 1, 1, 1, 1, 1, 1, 1, 1, 1, 1, 1, 1, 1, 1, 1, 1, 1, 1, 1, 1, 1, 1, 1, 1, 1, 1, 1, 1, 1, 1, 1, 1, 1, 1, 0, 0] mi 9
def pg_wp : List Nat := [25, 547, 665, 683, 721, 739, 747, 763, 771, 778, 876, 911, 923, 931, 556, 552, 726, 916, 689, 1033, 181, 33, 75, 202, 54, 269, 321, 48, 208, 542, 662, 679, 718, 736, 744, 760, 768, 775, 873, 908, 920, 928, 0, 406, 410, 414, 515, 523, 527, 535, 658, 519, 729, 469, 433, 426, 1147, 1159, 1156, 1038, 1192, 1167, 1163, 1151, 1170, 1180, 1175, 1188, 1183, 1195, 1199, 1203, 1207, 1216, 1211, 1219, 1239, 1243, 1247, 1259, 1279, 1228, 1232, 1263, 1255, 1271, 1275, 1267, 1251, 1236, 1223, 1282, 1287, 1291, 1295, 1308, 1312, 1316, 1332, 1336, 1328, 1320, 1324, 1304, 1299, 1348, 1352, 1344, 1339, 1360, 1355, 1363, 1387, 1372, 1384, 1380, 1376, 1391, 1410, 1399, 1406, 1415, 1403, 1395, 1367, 531, 422, 374, 881, 904, 901, 887, 891, 279, 786, 821, 813, 798, 794, 825, 712, 647, 756, 461, 418, 430, 437, 441, 449, 473, 490, 477, 486, 511, 669, 674, 369, 782, 791, 804, 810, 818, 831, 835, 840, 851, 846, 861, 936, 941, 946, 950, 954, 958, 962, 969, 973, 977, 981, 985, 989, 995, 1001, 1005, 1009, 1015, 1019, 1023, 1027, 365, 708, 444, 652, 643, 752, 453, 457, 505, 498, 480, 856, 864, 493, 501, 539, 378]
def pg_sp : List Nat := [0, 642, 760, 778, 816, 834, 842, 858, 866, 873, 971, 1006, 1018, 1026, 11, 10, 15, 29, 14, 0, 0, 0, 0, 0, 0, 0, 0, 0, 0, 0, 0, 0, 0, 0, 0, 0, 0, 0, 0, 0, 0, 0, 0, 501, 505, 509, 610, 618, 622, 630, 13, 0, 0, 0, 0, 0, 1242, 0, 51, 50, 56, 53, 52, 1246, 1265, 54, 1270, 55, 1278, 1290, 1294, 1298, 1302, 57, 1306, 1314, 0, 61, 62, 65, 70, 58, 59, 66, 64, 68, 69, 67, 63, 60, 1318, 1377, 1382, 1386, 1390, 72, 73, 74, 78, 79, 77, 75, 76, 71, 1394, 81, 82, 80, 1434, 83, 1450, 1458, 0, 84, 87, 86, 85, 88, 92, 90, 0, 93, 91, 89, 1462, 626, 517, 469, 976, 999, 28, 26, 27, 0, 881, 916, 908, 893, 889, 920, 807, 742, 851, 556, 513, 0, 1, 2, 3, 4, 7, 5, 6, 9, 764, 769, 464, 877, 16, 17, 18, 19, 20, 21, 22, 24, 23, 25, 1031, 30, 31, 32, 33, 34, 35, 36, 37, 38, 39, 40, 41, 42, 43, 44, 45, 46, 47, 48, 49, 460, 803, 539, 747, 738, 847, 548, 552, 600, 8, 575, 951, 959, 588, 596, 0, 0]
theorem pg_nps : ∀ mi, mi < 206 → (parseMethodDescriptor (pg_y mi).desc).map (fun d => d.parameters.length) = some (pg_np mi) := by decide +kernel
theorem pg_cls : ∀ mi, mi < 206 → (pg_y mi).cls = pg_cn (pg_oc mi) ∧ (pg_y mi).cls ≠ "java/lang/invoke/MethodHandle" ∧ (pg_y mi).cls ≠ "java/lang/invoke/VarHandle" ∧ plainName (pg_y mi).cls = true ∧ pg_oc mi < 14 := by decide +kernel
def cw_ok (mi : Nat) : Bool := match tables_1[mc_nth pg_cwp mi 0]? with
  | some (.code y _ n r) => decide (y = pg_y mi) && Nat.beq n (pg_nl mi) && decide (r = pg_rt mi) && (pg_hs mi).isEmpty
  | some (.codeWith y _ n r h) => decide (y = pg_y mi) && Nat.beq n (pg_nl mi) && decide (r = pg_rt mi) && decide (h = pg_hs mi) && !h.isEmpty
  | _ => false
theorem cw_oks : ∀ mi, mi < 206 → mi ≠ 42 → cw_ok mi = true := by decide +kernel
theorem pg_cws (mi : Nat) (h1 : mi < 206) (h2 : mi ≠ 42) : tables_1[mc_nth pg_cwp mi 0]? = some (pg_cw mi) := by
  have h := cw_oks mi h1 h2
  have hb : Nat.beq mi 42 = false := by
    cases hh : Nat.beq mi 42 with
    | false => rfl
    | true => exact absurd (Nat.eq_of_beq_eq_true hh) h2
  unfold cw_ok at h
  unfold pg_cw pg_by
  rw [hb]
  dsimp only
  cases ht : tables_1[mc_nth pg_cwp mi 0]? with
  | none => rw [ht] at h; cases h
  | some w =>
    rw [ht] at h
    cases w with
    | code y b n r =>
      simp only [Bool.and_eq_true, decide_eq_true_eq, List.isEmpty_iff] at h
      obtain ⟨⟨⟨rfl, e2⟩, rfl⟩, e4⟩ := h
      cases Nat.eq_of_beq_eq_true e2
      rw [e4]
    | codeWith y b n r hs =>
      simp only [Bool.and_eq_true, decide_eq_true_eq, Bool.not_eq_true'] at h
      obtain ⟨⟨⟨⟨rfl, e2⟩, rfl⟩, e4⟩, e5⟩ := h
      cases Nat.eq_of_beq_eq_true e2
      subst e4
      cases hp : pg_hs mi with
      | nil => rw [hp] at e5; cases e5
      | cons a r => rfl
    | _ => cases h
theorem pg_k0 : ∀ mi, mi < 206 → mi ≠ 42 → pg_kd mi = 0 → tables_1[mc_nth pg_wp mi 0]? = some (.static (pg_y mi)) := by decide +kernel
theorem pg_k1 : ∀ mi, mi < 206 → ¬ pg_kd mi = 0 → tables_1[mc_nth pg_wp mi 0]? = some (.instanceMethod (pg_y mi)) := by decide +kernel
theorem pg_k1s : ∀ mi, mi < 206 → pg_kd mi = 1 → lw_tbl[mc_nth pg_sp mi 0]? = some (.selects (pg_y mi).cls (pg_y mi) (pg_y mi)) ∧ pg_rc mi = pg_oc mi ∧ pg_oc mi < 12 := by decide +kernel
theorem pg_k2 : ∀ mi, mi < 206 → pg_kd mi = 2 → (pg_y mi).name = "<init>" ∧ pg_rt mi = none := by decide +kernel
