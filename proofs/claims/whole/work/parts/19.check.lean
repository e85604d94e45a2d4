/-! what must hold of an entry, by numbers -/
def lk_has (o i k a : Nat) : Bool := pg_lk.any fun q => Nat.beq q.1 o && Nat.beq q.2.1 i && Nat.beq q.2.2.1 k && Nat.beq q.2.2.2.1 a
def fl_has (o i c k : Nat) : Bool := pg_fl.any fun q => Nat.beq q.1 o && Nat.beq q.2.1 i && Nat.beq q.2.2.1 c && Nat.beq q.2.2.2.1 k
def fl_own (o i c k : Nat) : Bool := pg_fl.any fun q => Nat.beq q.1 o && Nat.beq q.2.1 i && Nat.beq q.2.2.1 c && Nat.beq q.2.2.2.1 k && Nat.beq q.2.2.2.2.1 0
def ml_has (o i m : Nat) : Bool := pg_ml.any fun q => Nat.beq q.1 o && Nat.beq q.2.1 i && Nat.beq q.2.2.1 m
def pg_nf (ci : Nat) : Nat := mc_nth [8, 2, 2, 3, 10, 6, 2, 8, 11, 5, 8, 35] ci 0
def pg_fin (ci k : Nat) : Bool := match pg_cl[ci]? with
  | some r => (r.2.1 k).2.2.2
  | none => false
def ck_room (mi f l : Nat) : Bool := Nat.ble f (pg_rm mi).1 && Nat.ble l (pg_rm mi).2
def ck_cal (mi i x y z : Nat) : Bool := ml_has (pg_oc mi) i x && Nat.blt x 206 && !(Nat.beq x 42) && Nat.beq (pg_kd x) z && Nat.beq y (pg_np x + (if z = 0 then 0 else 1)) && ck_room mi ((pg_rm x).1 + 1) (8 + (pg_nl x + 11) + (pg_rm x).2)
def ck_n (mi : Nat) (e : mc_E) : Bool := match e with
  | (pc, ins, n, x, y, z) => match ins with
    | .iconst _ => Nat.beq n 1
    | .bipush _ => Nat.beq n 2
    | .sipush _ => Nat.beq n 3
    | .ldc i => Nat.beq n 2 && (!(Nat.beq z 0) || lk_has (pg_oc mi) i 10 x)
    | .ldc_w _ => Nat.beq n 3
    | .ldc2_w i => Nat.beq n 3 && lk_has (pg_oc mi) i 11 x
    | .iload_n _ => Nat.beq n 1
    | .lload_n _ => Nat.beq n 1
    | .aload_n _ => Nat.beq n 1
    | .iload _ => Nat.beq n 2
    | .lload _ => Nat.beq n 2
    | .aload _ => Nat.beq n 2
    | .istore_n k => Nat.beq n 1 && Nat.blt k.val (pg_nl mi)
    | .astore_n k => Nat.beq n 1 && Nat.blt k.val (pg_nl mi)
    | .istore i => Nat.beq n 2 && Nat.blt i (pg_nl mi)
    | .astore i => Nat.beq n 2 && Nat.blt i (pg_nl mi)
    | .iinc i _ => Nat.beq n 3 && Nat.blt i (pg_nl mi)
    | .iadd => Nat.beq n 1
    | .isub => Nat.beq n 1
    | .imul => Nat.beq n 1
    | .iand => Nat.beq n 1
    | .ior => Nat.beq n 1
    | .idiv => Nat.beq n 1
    | .irem => Nat.beq n 1
    | .ishl => Nat.beq n 1
    | .ishr => Nat.beq n 1
    | .land => Nat.beq n 1
    | .lor => Nat.beq n 1
    | .lshl => Nat.beq n 1
    | .lshr => Nat.beq n 1
    | .lushr => Nat.beq n 1
    | .i2l => Nat.beq n 1
    | .l2i => Nat.beq n 1
    | .lcmp => Nat.beq n 1
    | .dup => Nat.beq n 1
    | .pop => Nat.beq n 1
    | .dup2 => Nat.beq n 1
    | .iaload => Nat.beq n 1
    | .iastore => Nat.beq n 1
    | .laload => Nat.beq n 1
    | .lastore => Nat.beq n 1
    | .aaload => Nat.beq n 1
    | .aastore => Nat.beq n 1 && Nat.beq x 4
    | .arraylength => Nat.beq n 1
    | .athrow => Nat.beq n 1
    | .getfield i => Nat.beq n 3 && fl_has (pg_oc mi) i x y && Nat.beq (pg_fk x y) z && Nat.blt y (pg_nf x) && Nat.blt x 12
    | .putfield i => Nat.beq n 3 && fl_has (pg_oc mi) i x y && Nat.beq (pg_fk x y) z && Nat.blt y (pg_nf x) && Nat.blt x 12 && (!(pg_fin x y) || (Nat.beq (pg_kd mi) 2 && Nat.beq (pg_oc mi) x && fl_own (pg_oc mi) i x y))
    | .getstatic i => Nat.beq n 3 && Nat.ble 2 x && Nat.ble x 4 && (lk_has (pg_oc mi) i 8 x || lk_has (pg_oc mi) i 9 x)
    | .new i => Nat.beq n 3 && ((Nat.beq z 0 && lk_has (pg_oc mi) i 1 x && Nat.beq y (pg_nf x) && Nat.blt x 12) || (Nat.beq z 1 && lk_has (pg_oc mi) i 2 x && Nat.beq (pg_oc mi) 0 && ck_room mi 6 90 && Nat.ble 1 x && Nat.ble x 3))
    | .newarray .int => Nat.beq n 2 && Nat.beq x 2
    | .newarray .long => Nat.beq n 2 && Nat.beq x 4
    | .anewarray i => Nat.beq n 3 && Nat.beq x 3 && lk_has (pg_oc mi) i 1 4
    | .goto o => Nat.beq n 3 && decide ((pc : Int) + o = (x : Int))
    | .ifCond _ o => Nat.beq n 3 && decide ((pc : Int) + o = (x : Int))
    | .if_icmp _ o => Nat.beq n 3 && decide ((pc : Int) + o = (x : Int))
    | .tableswitch d lo hi offs => decide ((pc : Int) + d = (x : Int)) && decide (hi = lo + (offs.toList.length : Int) - 1) && offs.toList.all (fun o => decide (0 ≤ (pc : Int) + o))
    | .ireturn => Nat.beq n 1 && ((Nat.beq z 0 && decide (pg_rt mi = some .int)) || (Nat.beq z 1 && decide (pg_rt mi = some .boolean)))
    | .areturn => Nat.beq n 1 && (match pg_rt mi with
      | some t => isReferenceType t
      | none => false)
    | .return_ => Nat.beq n 1 && decide (pg_rt mi = none)
    | .invokestatic i => Nat.beq n 3 && ((Nat.beq z 4 && lk_has (pg_oc mi) i 4 0 && ck_room mi 1 21) || (Nat.beq z 5 && lk_has (pg_oc mi) i 5 0 && ck_room mi 1 21) || (Nat.beq z 6 && lk_has (pg_oc mi) i 6 0 && ck_room mi 1 48) || (Nat.beq z 0 && ck_cal mi i x y z))
    | .invokevirtual i => Nat.beq n 3 && Nat.beq z 1 && ck_cal mi i x y z
    | .invokespecial i => Nat.beq n 3 && ((Nat.beq z 3 && lk_has (pg_oc mi) i 7 0 && ck_room mi 1 20) || (Nat.beq z 2 && ck_cal mi i x y z) || Nat.beq z 9)
    | _ => false
/-- behind a 'new' of an exception: dup, its text, its constructor, athrow -/
def ck_th (mi : Nat) : List mc_E → Bool
  | (_, .new _, _, x, _, z) :: r => (!(Nat.beq z 1) || (match r with
    | (_, .dup, 1, _) :: (_, .ldc b, 2, _) :: (_, .invokespecial i, 3, _) :: (_, .athrow, 1, _) :: _ => lk_has (pg_oc mi) b 12 b && lk_has (pg_oc mi) i 3 x
    | (_, .dup, 1, _) :: (_, .ldc_w b, 3, _) :: (_, .invokespecial i, 3, _) :: (_, .athrow, 1, _) :: _ => lk_has (pg_oc mi) b 12 b && lk_has (pg_oc mi) i 3 x
    | _ => false)) && ck_th mi r
  | _ :: r => ck_th mi r
  | [] => true
theorem ck_e0 : (tb_0.all (ck_n 0) && ck_th 0 tb_0) = true := by decide +kernel
theorem ck_e1 : (tb_1.all (ck_n 1) && ck_th 1 tb_1) = true := by decide +kernel
theorem ck_e2 : (tb_2.all (ck_n 2) && ck_th 2 tb_2) = true := by decide +kernel
theorem ck_e3 : (tb_3.all (ck_n 3) && ck_th 3 tb_3) = true := by decide +kernel
theorem ck_e4 : (tb_4.all (ck_n 4) && ck_th 4 tb_4) = true := by decide +kernel
theorem ck_e5 : (tb_5.all (ck_n 5) && ck_th 5 tb_5) = true := by decide +kernel
theorem ck_e6 : (tb_6.all (ck_n 6) && ck_th 6 tb_6) = true := by decide +kernel
theorem ck_e7 : (tb_7.all (ck_n 7) && ck_th 7 tb_7) = true := by decide +kernel
theorem ck_e8 : (tb_8.all (ck_n 8) && ck_th 8 tb_8) = true := by decide +kernel
theorem ck_e9 : (tb_9.all (ck_n 9) && ck_th 9 tb_9) = true := by decide +kernel
theorem ck_e10 : (tb_10.all (ck_n 10) && ck_th 10 tb_10) = true := by decide +kernel
theorem ck_e11 : (tb_11.all (ck_n 11) && ck_th 11 tb_11) = true := by decide +kernel
theorem ck_e12 : (tb_12.all (ck_n 12) && ck_th 12 tb_12) = true := by decide +kernel
theorem ck_e13 : (tb_13.all (ck_n 13) && ck_th 13 tb_13) = true := by decide +kernel
theorem ck_e14 : (tb_14.all (ck_n 14) && ck_th 14 tb_14) = true := by decide +kernel
theorem ck_e15 : (tb_15.all (ck_n 15) && ck_th 15 tb_15) = true := by decide +kernel
theorem ck_e16 : (tb_16.all (ck_n 16) && ck_th 16 tb_16) = true := by decide +kernel
theorem ck_e17 : (tb_17.all (ck_n 17) && ck_th 17 tb_17) = true := by decide +kernel
theorem ck_e18 : (tb_18.all (ck_n 18) && ck_th 18 tb_18) = true := by decide +kernel
theorem ck_e19 : (tb_19.all (ck_n 19) && ck_th 19 tb_19) = true := by decide +kernel
theorem ck_e20 : (tb_20.all (ck_n 20) && ck_th 20 tb_20) = true := by decide +kernel
theorem ck_e21 : (tb_21.all (ck_n 21) && ck_th 21 tb_21) = true := by decide +kernel
theorem ck_e22 : (tb_22.all (ck_n 22) && ck_th 22 tb_22) = true := by decide +kernel
theorem ck_e23 : (tb_23.all (ck_n 23) && ck_th 23 tb_23) = true := by decide +kernel
theorem ck_e24 : (tb_24.all (ck_n 24) && ck_th 24 tb_24) = true := by decide +kernel
theorem ck_e25 : (tb_25.all (ck_n 25) && ck_th 25 tb_25) = true := by decide +kernel
theorem ck_e26 : (tb_26.all (ck_n 26) && ck_th 26 tb_26) = true := by decide +kernel
theorem ck_e27 : (tb_27.all (ck_n 27) && ck_th 27 tb_27) = true := by decide +kernel
theorem ck_e28 : (tb_28.all (ck_n 28) && ck_th 28 tb_28) = true := by decide +kernel
theorem ck_e29 : (tb_29.all (ck_n 29) && ck_th 29 tb_29) = true := by decide +kernel
theorem ck_e30 : (tb_30.all (ck_n 30) && ck_th 30 tb_30) = true := by decide +kernel
theorem ck_e31 : (tb_31.all (ck_n 31) && ck_th 31 tb_31) = true := by decide +kernel
theorem ck_e32 : (tb_32.all (ck_n 32) && ck_th 32 tb_32) = true := by decide +kernel
theorem ck_e33 : (tb_33.all (ck_n 33) && ck_th 33 tb_33) = true := by decide +kernel
theorem ck_e34 : (tb_34.all (ck_n 34) && ck_th 34 tb_34) = true := by decide +kernel
theorem ck_e35 : (tb_35.all (ck_n 35) && ck_th 35 tb_35) = true := by decide +kernel
theorem ck_e36 : (tb_36.all (ck_n 36) && ck_th 36 tb_36) = true := by decide +kernel
theorem ck_e37 : (tb_37.all (ck_n 37) && ck_th 37 tb_37) = true := by decide +kernel
theorem ck_e38 : (tb_38.all (ck_n 38) && ck_th 38 tb_38) = true := by decide +kernel
theorem ck_e39 : (tb_39.all (ck_n 39) && ck_th 39 tb_39) = true := by decide +kernel
theorem ck_e40 : (tb_40.all (ck_n 40) && ck_th 40 tb_40) = true := by decide +kernel
theorem ck_e41 : (tb_41.all (ck_n 41) && ck_th 41 tb_41) = true := by decide +kernel
theorem ck_e42 : (tb_42.all (ck_n 42) && ck_th 42 tb_42) = true := by decide +kernel
theorem ck_e43 : (tb_43.all (ck_n 43) && ck_th 43 tb_43) = true := by decide +kernel
theorem ck_e44 : (tb_44.all (ck_n 44) && ck_th 44 tb_44) = true := by decide +kernel
theorem ck_e45 : (tb_45.all (ck_n 45) && ck_th 45 tb_45) = true := by decide +kernel
theorem ck_e46 : (tb_46.all (ck_n 46) && ck_th 46 tb_46) = true := by decide +kernel
theorem ck_e47 : (tb_47.all (ck_n 47) && ck_th 47 tb_47) = true := by decide +kernel
theorem ck_e48 : (tb_48.all (ck_n 48) && ck_th 48 tb_48) = true := by decide +kernel
theorem ck_e49 : (tb_49.all (ck_n 49) && ck_th 49 tb_49) = true := by decide +kernel
theorem ck_e50 : (tb_50.all (ck_n 50) && ck_th 50 tb_50) = true := by decide +kernel
theorem ck_e51 : (tb_51.all (ck_n 51) && ck_th 51 tb_51) = true := by decide +kernel
theorem ck_e52 : (tb_52.all (ck_n 52) && ck_th 52 tb_52) = true := by decide +kernel
theorem ck_e53 : (tb_53.all (ck_n 53) && ck_th 53 tb_53) = true := by decide +kernel
theorem ck_e54 : (tb_54.all (ck_n 54) && ck_th 54 tb_54) = true := by decide +kernel
theorem ck_e55 : (tb_55.all (ck_n 55) && ck_th 55 tb_55) = true := by decide +kernel
theorem ck_e56 : (tb_56.all (ck_n 56) && ck_th 56 tb_56) = true := by decide +kernel
theorem ck_e57 : (tb_57.all (ck_n 57) && ck_th 57 tb_57) = true := by decide +kernel
theorem ck_e58 : (tb_58.all (ck_n 58) && ck_th 58 tb_58) = true := by decide +kernel
theorem ck_e59 : (tb_59.all (ck_n 59) && ck_th 59 tb_59) = true := by decide +kernel
theorem ck_e60 : (tb_60.all (ck_n 60) && ck_th 60 tb_60) = true := by decide +kernel
theorem ck_e61 : (tb_61.all (ck_n 61) && ck_th 61 tb_61) = true := by decide +kernel
theorem ck_e62 : (tb_62.all (ck_n 62) && ck_th 62 tb_62) = true := by decide +kernel
theorem ck_e63 : (tb_63.all (ck_n 63) && ck_th 63 tb_63) = true := by decide +kernel
theorem ck_e64 : (tb_64.all (ck_n 64) && ck_th 64 tb_64) = true := by decide +kernel
theorem ck_e65 : (tb_65.all (ck_n 65) && ck_th 65 tb_65) = true := by decide +kernel
theorem ck_e66 : (tb_66.all (ck_n 66) && ck_th 66 tb_66) = true := by decide +kernel
theorem ck_e67 : (tb_67.all (ck_n 67) && ck_th 67 tb_67) = true := by decide +kernel
theorem ck_e68 : (tb_68.all (ck_n 68) && ck_th 68 tb_68) = true := by decide +kernel
theorem ck_e69 : (tb_69.all (ck_n 69) && ck_th 69 tb_69) = true := by decide +kernel
theorem ck_e70 : (tb_70.all (ck_n 70) && ck_th 70 tb_70) = true := by decide +kernel
theorem ck_e71 : (tb_71.all (ck_n 71) && ck_th 71 tb_71) = true := by decide +kernel
theorem ck_e72 : (tb_72.all (ck_n 72) && ck_th 72 tb_72) = true := by decide +kernel
theorem ck_e73 : (tb_73.all (ck_n 73) && ck_th 73 tb_73) = true := by decide +kernel
theorem ck_e74 : (tb_74.all (ck_n 74) && ck_th 74 tb_74) = true := by decide +kernel
theorem ck_e75 : (tb_75.all (ck_n 75) && ck_th 75 tb_75) = true := by decide +kernel
theorem ck_e76 : (tb_76.all (ck_n 76) && ck_th 76 tb_76) = true := by decide +kernel
theorem ck_e77 : (tb_77.all (ck_n 77) && ck_th 77 tb_77) = true := by decide +kernel
theorem ck_e78 : (tb_78.all (ck_n 78) && ck_th 78 tb_78) = true := by decide +kernel
theorem ck_e79 : (tb_79.all (ck_n 79) && ck_th 79 tb_79) = true := by decide +kernel
theorem ck_e80 : (tb_80.all (ck_n 80) && ck_th 80 tb_80) = true := by decide +kernel
theorem ck_e81 : (tb_81.all (ck_n 81) && ck_th 81 tb_81) = true := by decide +kernel
theorem ck_e82 : (tb_82.all (ck_n 82) && ck_th 82 tb_82) = true := by decide +kernel
theorem ck_e83 : (tb_83.all (ck_n 83) && ck_th 83 tb_83) = true := by decide +kernel
theorem ck_e84 : (tb_84.all (ck_n 84) && ck_th 84 tb_84) = true := by decide +kernel
theorem ck_e85 : (tb_85.all (ck_n 85) && ck_th 85 tb_85) = true := by decide +kernel
theorem ck_e86 : (tb_86.all (ck_n 86) && ck_th 86 tb_86) = true := by decide +kernel
theorem ck_e87 : (tb_87.all (ck_n 87) && ck_th 87 tb_87) = true := by decide +kernel
theorem ck_e88 : (tb_88.all (ck_n 88) && ck_th 88 tb_88) = true := by decide +kernel
theorem ck_e89 : (tb_89.all (ck_n 89) && ck_th 89 tb_89) = true := by decide +kernel
theorem ck_e90 : (tb_90.all (ck_n 90) && ck_th 90 tb_90) = true := by decide +kernel
theorem ck_e91 : (tb_91.all (ck_n 91) && ck_th 91 tb_91) = true := by decide +kernel
theorem ck_e92 : (tb_92.all (ck_n 92) && ck_th 92 tb_92) = true := by decide +kernel
theorem ck_e93 : (tb_93.all (ck_n 93) && ck_th 93 tb_93) = true := by decide +kernel
theorem ck_e94 : (tb_94.all (ck_n 94) && ck_th 94 tb_94) = true := by decide +kernel
theorem ck_e95 : (tb_95.all (ck_n 95) && ck_th 95 tb_95) = true := by decide +kernel
theorem ck_e96 : (tb_96.all (ck_n 96) && ck_th 96 tb_96) = true := by decide +kernel
theorem ck_e97 : (tb_97.all (ck_n 97) && ck_th 97 tb_97) = true := by decide +kernel
theorem ck_e98 : (tb_98.all (ck_n 98) && ck_th 98 tb_98) = true := by decide +kernel
theorem ck_e99 : (tb_99.all (ck_n 99) && ck_th 99 tb_99) = true := by decide +kernel
theorem ck_e100 : (tb_100.all (ck_n 100) && ck_th 100 tb_100) = true := by decide +kernel
theorem ck_e101 : (tb_101.all (ck_n 101) && ck_th 101 tb_101) = true := by decide +kernel
theorem ck_e102 : (tb_102.all (ck_n 102) && ck_th 102 tb_102) = true := by decide +kernel
theorem ck_e103 : (tb_103.all (ck_n 103) && ck_th 103 tb_103) = true := by decide +kernel
theorem ck_e104 : (tb_104.all (ck_n 104) && ck_th 104 tb_104) = true := by decide +kernel
theorem ck_e105 : (tb_105.all (ck_n 105) && ck_th 105 tb_105) = true := by decide +kernel
theorem ck_e106 : (tb_106.all (ck_n 106) && ck_th 106 tb_106) = true := by decide +kernel
theorem ck_e107 : (tb_107.all (ck_n 107) && ck_th 107 tb_107) = true := by decide +kernel
theorem ck_e108 : (tb_108.all (ck_n 108) && ck_th 108 tb_108) = true := by decide +kernel
theorem ck_e109 : (tb_109.all (ck_n 109) && ck_th 109 tb_109) = true := by decide +kernel
theorem ck_e110 : (tb_110.all (ck_n 110) && ck_th 110 tb_110) = true := by decide +kernel
theorem ck_e111 : (tb_111.all (ck_n 111) && ck_th 111 tb_111) = true := by decide +kernel
theorem ck_e112 : (tb_112.all (ck_n 112) && ck_th 112 tb_112) = true := by decide +kernel
theorem ck_e113 : (tb_113.all (ck_n 113) && ck_th 113 tb_113) = true := by decide +kernel
theorem ck_e114 : (tb_114.all (ck_n 114) && ck_th 114 tb_114) = true := by decide +kernel
theorem ck_e115 : (tb_115.all (ck_n 115) && ck_th 115 tb_115) = true := by decide +kernel
theorem ck_e116 : (tb_116.all (ck_n 116) && ck_th 116 tb_116) = true := by decide +kernel
theorem ck_e117 : (tb_117.all (ck_n 117) && ck_th 117 tb_117) = true := by decide +kernel
theorem ck_e118 : (tb_118.all (ck_n 118) && ck_th 118 tb_118) = true := by decide +kernel
theorem ck_e119 : (tb_119.all (ck_n 119) && ck_th 119 tb_119) = true := by decide +kernel
theorem ck_e120 : (tb_120.all (ck_n 120) && ck_th 120 tb_120) = true := by decide +kernel
theorem ck_e121 : (tb_121.all (ck_n 121) && ck_th 121 tb_121) = true := by decide +kernel
theorem ck_e122 : (tb_122.all (ck_n 122) && ck_th 122 tb_122) = true := by decide +kernel
theorem ck_e123 : (tb_123.all (ck_n 123) && ck_th 123 tb_123) = true := by decide +kernel
theorem ck_e124 : (tb_124.all (ck_n 124) && ck_th 124 tb_124) = true := by decide +kernel
theorem ck_e125 : (tb_125.all (ck_n 125) && ck_th 125 tb_125) = true := by decide +kernel
theorem ck_e126 : (tb_126.all (ck_n 126) && ck_th 126 tb_126) = true := by decide +kernel
theorem ck_e127 : (tb_127.all (ck_n 127) && ck_th 127 tb_127) = true := by decide +kernel
theorem ck_e128 : (tb_128.all (ck_n 128) && ck_th 128 tb_128) = true := by decide +kernel
theorem ck_e129 : (tb_129.all (ck_n 129) && ck_th 129 tb_129) = true := by decide +kernel
theorem ck_e130 : (tb_130.all (ck_n 130) && ck_th 130 tb_130) = true := by decide +kernel
theorem ck_e131 : (tb_131.all (ck_n 131) && ck_th 131 tb_131) = true := by decide +kernel
theorem ck_e132 : (tb_132.all (ck_n 132) && ck_th 132 tb_132) = true := by decide +kernel
theorem ck_e133 : (tb_133.all (ck_n 133) && ck_th 133 tb_133) = true := by decide +kernel
theorem ck_e134 : (tb_134.all (ck_n 134) && ck_th 134 tb_134) = true := by decide +kernel
theorem ck_e135 : (tb_135.all (ck_n 135) && ck_th 135 tb_135) = true := by decide +kernel
theorem ck_e136 : (tb_136.all (ck_n 136) && ck_th 136 tb_136) = true := by decide +kernel
theorem ck_e137 : (tb_137.all (ck_n 137) && ck_th 137 tb_137) = true := by decide +kernel
theorem ck_e138 : (tb_138.all (ck_n 138) && ck_th 138 tb_138) = true := by decide +kernel
theorem ck_e139 : (tb_139.all (ck_n 139) && ck_th 139 tb_139) = true := by decide +kernel
theorem ck_e140 : (tb_140.all (ck_n 140) && ck_th 140 tb_140) = true := by decide +kernel
theorem ck_e141 : (tb_141.all (ck_n 141) && ck_th 141 tb_141) = true := by decide +kernel
theorem ck_e142 : (tb_142.all (ck_n 142) && ck_th 142 tb_142) = true := by decide +kernel
theorem ck_e143 : (tb_143.all (ck_n 143) && ck_th 143 tb_143) = true := by decide +kernel
theorem ck_e144 : (tb_144.all (ck_n 144) && ck_th 144 tb_144) = true := by decide +kernel
theorem ck_e145 : (tb_145.all (ck_n 145) && ck_th 145 tb_145) = true := by decide +kernel
theorem ck_e146 : (tb_146.all (ck_n 146) && ck_th 146 tb_146) = true := by decide +kernel
theorem ck_e147 : (tb_147.all (ck_n 147) && ck_th 147 tb_147) = true := by decide +kernel
theorem ck_e148 : (tb_148.all (ck_n 148) && ck_th 148 tb_148) = true := by decide +kernel
theorem ck_e149 : (tb_149.all (ck_n 149) && ck_th 149 tb_149) = true := by decide +kernel
theorem ck_e150 : (tb_150.all (ck_n 150) && ck_th 150 tb_150) = true := by decide +kernel
theorem ck_e151 : (tb_151.all (ck_n 151) && ck_th 151 tb_151) = true := by decide +kernel
theorem ck_e152 : (tb_152.all (ck_n 152) && ck_th 152 tb_152) = true := by decide +kernel
theorem ck_e153 : (tb_153.all (ck_n 153) && ck_th 153 tb_153) = true := by decide +kernel
theorem ck_e154 : (tb_154.all (ck_n 154) && ck_th 154 tb_154) = true := by decide +kernel
theorem ck_e155 : (tb_155.all (ck_n 155) && ck_th 155 tb_155) = true := by decide +kernel
theorem ck_e156 : (tb_156.all (ck_n 156) && ck_th 156 tb_156) = true := by decide +kernel
theorem ck_e157 : (tb_157.all (ck_n 157) && ck_th 157 tb_157) = true := by decide +kernel
theorem ck_e158 : (tb_158.all (ck_n 158) && ck_th 158 tb_158) = true := by decide +kernel
theorem ck_e159 : (tb_159.all (ck_n 159) && ck_th 159 tb_159) = true := by decide +kernel
theorem ck_e160 : (tb_160.all (ck_n 160) && ck_th 160 tb_160) = true := by decide +kernel
theorem ck_e161 : (tb_161.all (ck_n 161) && ck_th 161 tb_161) = true := by decide +kernel
theorem ck_e162 : (tb_162.all (ck_n 162) && ck_th 162 tb_162) = true := by decide +kernel
theorem ck_e163 : (tb_163.all (ck_n 163) && ck_th 163 tb_163) = true := by decide +kernel
theorem ck_e164 : (tb_164.all (ck_n 164) && ck_th 164 tb_164) = true := by decide +kernel
theorem ck_e165 : (tb_165.all (ck_n 165) && ck_th 165 tb_165) = true := by decide +kernel
theorem ck_e166 : (tb_166.all (ck_n 166) && ck_th 166 tb_166) = true := by decide +kernel
theorem ck_e167 : (tb_167.all (ck_n 167) && ck_th 167 tb_167) = true := by decide +kernel
theorem ck_e168 : (tb_168.all (ck_n 168) && ck_th 168 tb_168) = true := by decide +kernel
theorem ck_e169 : (tb_169.all (ck_n 169) && ck_th 169 tb_169) = true := by decide +kernel
theorem ck_e170 : (tb_170.all (ck_n 170) && ck_th 170 tb_170) = true := by decide +kernel
theorem ck_e171 : (tb_171.all (ck_n 171) && ck_th 171 tb_171) = true := by decide +kernel
theorem ck_e172 : (tb_172.all (ck_n 172) && ck_th 172 tb_172) = true := by decide +kernel
theorem ck_e173 : (tb_173.all (ck_n 173) && ck_th 173 tb_173) = true := by decide +kernel
theorem ck_e174 : (tb_174.all (ck_n 174) && ck_th 174 tb_174) = true := by decide +kernel
theorem ck_e175 : (tb_175.all (ck_n 175) && ck_th 175 tb_175) = true := by decide +kernel
theorem ck_e176 : (tb_176.all (ck_n 176) && ck_th 176 tb_176) = true := by decide +kernel
theorem ck_e177 : (tb_177.all (ck_n 177) && ck_th 177 tb_177) = true := by decide +kernel
theorem ck_e178 : (tb_178.all (ck_n 178) && ck_th 178 tb_178) = true := by decide +kernel
theorem ck_e179 : (tb_179.all (ck_n 179) && ck_th 179 tb_179) = true := by decide +kernel
theorem ck_e180 : (tb_180.all (ck_n 180) && ck_th 180 tb_180) = true := by decide +kernel
theorem ck_e181 : (tb_181.all (ck_n 181) && ck_th 181 tb_181) = true := by decide +kernel
theorem ck_e182 : (tb_182.all (ck_n 182) && ck_th 182 tb_182) = true := by decide +kernel
theorem ck_e183 : (tb_183.all (ck_n 183) && ck_th 183 tb_183) = true := by decide +kernel
theorem ck_e184 : (tb_184.all (ck_n 184) && ck_th 184 tb_184) = true := by decide +kernel
theorem ck_e185 : (tb_185.all (ck_n 185) && ck_th 185 tb_185) = true := by decide +kernel
theorem ck_e186 : (tb_186.all (ck_n 186) && ck_th 186 tb_186) = true := by decide +kernel
theorem ck_e187 : (tb_187.all (ck_n 187) && ck_th 187 tb_187) = true := by decide +kernel
theorem ck_e188 : (tb_188.all (ck_n 188) && ck_th 188 tb_188) = true := by decide +kernel
theorem ck_e189 : (tb_189.all (ck_n 189) && ck_th 189 tb_189) = true := by decide +kernel
theorem ck_e190 : (tb_190.all (ck_n 190) && ck_th 190 tb_190) = true := by decide +kernel
theorem ck_e191 : (tb_191.all (ck_n 191) && ck_th 191 tb_191) = true := by decide +kernel
theorem ck_e192 : (tb_192.all (ck_n 192) && ck_th 192 tb_192) = true := by decide +kernel
theorem ck_e193 : (tb_193.all (ck_n 193) && ck_th 193 tb_193) = true := by decide +kernel
theorem ck_e194 : (tb_194.all (ck_n 194) && ck_th 194 tb_194) = true := by decide +kernel
theorem ck_e195 : (tb_195.all (ck_n 195) && ck_th 195 tb_195) = true := by decide +kernel
theorem ck_e196 : (tb_196.all (ck_n 196) && ck_th 196 tb_196) = true := by decide +kernel
theorem ck_e197 : (tb_197.all (ck_n 197) && ck_th 197 tb_197) = true := by decide +kernel
theorem ck_e198 : (tb_198.all (ck_n 198) && ck_th 198 tb_198) = true := by decide +kernel
theorem ck_e199 : (tb_199.all (ck_n 199) && ck_th 199 tb_199) = true := by decide +kernel
theorem ck_e200 : (tb_200.all (ck_n 200) && ck_th 200 tb_200) = true := by decide +kernel
theorem ck_e201 : (tb_201.all (ck_n 201) && ck_th 201 tb_201) = true := by decide +kernel
theorem ck_e202 : (tb_202.all (ck_n 202) && ck_th 202 tb_202) = true := by decide +kernel
theorem ck_e203 : (tb_203.all (ck_n 203) && ck_th 203 tb_203) = true := by decide +kernel
theorem ck_e204 : (tb_204.all (ck_n 204) && ck_th 204 tb_204) = true := by decide +kernel
theorem ck_e205 : (tb_205.all (ck_n 205) && ck_th 205 tb_205) = true := by decide +kernel
