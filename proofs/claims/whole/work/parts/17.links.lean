def pg_ex (k : Nat) : String := mc_nth ["", "java/lang/IndexOutOfBoundsException", "java/lang/IllegalArgumentException", "java/lang/IllegalStateException"] k ""
def pg_sn (a : Nat) : String := mc_nth ["", "", "PASS_STARTS", "PASS_STEPS", "PATTERN"] a ""
def pg_tx (a : Nat) : String := match a with
  | 85 => "no such number of bits"
  | 98 => "a number would be none of its palette"
  | 114 => "no such colour of its own"
  | 125 => "no such rectangle"
  | 149 => "none of the palette"
  | 162 => "out of its range"
  | 177 => "no such what"
  | 188 => "no such colour"
  | 210 => "not well formed"
  | 224 => "not so many frames"
  | 241 => "no such number of colours, or mode"
  | 247 => "no such frame"
  | 255 => "no such pixel"
  | 257 => "no such place"
  | 261 => "no room for one more frame"
  | _ => ""
def pg_lw (q : Nat × Nat × Nat × Nat × Nat) : Cond := match q.2.2.1 with
  | 1 => .classLink (pg_cn q.1) q.2.1 (pg_cn q.2.2.2.1)
  | 2 => .classLink (pg_cn q.1) q.2.1 (pg_ex q.2.2.2.1)
  | 3 => .methodLink (pg_cn q.1) q.2.1 ⟨pg_ex q.2.2.2.1, "<init>", "(Ljava/lang/String;)V"⟩
  | 4 => .methodLink (pg_cn q.1) q.2.1 Lib.Math.max.name
  | 5 => .methodLink (pg_cn q.1) q.2.1 Lib.Math.min.name
  | 6 => .methodLink (pg_cn q.1) q.2.1 arraycopyName
  | 7 => .methodLink (pg_cn q.1) q.2.1 objectInit
  | 8 => .fieldLink (pg_cn q.1) q.2.1 "PaletteReel" (pg_sn q.2.2.2.1) "[I"
  | 9 => .fieldLinkNest (pg_cn q.1) q.2.1 "PaletteReel" (pg_sn q.2.2.2.1) "[I" "PaletteReel"
  | 10 => .constant (pg_cn q.1) q.2.1 (Int32.ofNat q.2.2.2.1)
  | 11 => .constantLong (pg_cn q.1) q.2.1 (Int64.ofNat q.2.2.2.1)
  | _ => .stringRef (pg_cn q.1) q.2.1 (pg_tx q.2.2.2.1)
def pg_lk : List (Nat × Nat × Nat × Nat × Nat) := [(0, 3, 7, 0, 27), (0, 9, 1, 2, 30), (0, 16, 1, 9, 45), (0, 26, 1, 1, 178), (0, 35, 1, 5, 199), (0, 44, 1, 7, 266), (0, 55, 1, 8, 318), (0, 64, 5, 0, 358), (0, 70, 4, 0, 361), (0, 83, 2, 2, 626), (0, 85, 12, 85, 635), (0, 87, 3, 2, 636), (0, 98, 12, 98, 655), (0, 112, 2, 1, 558), (0, 114, 12, 114, 672), (0, 116, 3, 1, 600), (0, 125, 12, 125, 686), (0, 149, 12, 149, 733), (0, 162, 12, 162, 742), (0, 177, 12, 177, 750), (0, 188, 12, 188, 766), (0, 210, 12, 210, 870), (0, 224, 12, 224, 879), (0, 240, 10, 16777215, 926), (0, 241, 12, 241, 934), (0, 247, 12, 247, 599), (0, 255, 12, 255, 731), (0, 257, 12, 257, 918), (0, 259, 2, 3, 691), (0, 261, 12, 261, 700), (0, 263, 3, 3, 701), (1, 1, 7, 0, 183), (2, 3, 7, 0, 35), (2, 37, 6, 0, 895), (2, 61, 5, 0, 893), (3, 3, 7, 0, 281), (4, 3, 7, 0, 77), (4, 15, 1, 6, 78), (4, 58, 4, 0, 650), (4, 67, 9, 2, 464), (4, 70, 9, 3, 466), (5, 3, 7, 0, 204), (5, 9, 1, 10, 205), (5, 22, 1, 1, 245), (5, 116, 4, 0, 451), (5, 184, 5, 0, 513), (6, 3, 7, 0, 56), (6, 19, 10, 16777215, 677), (6, 20, 5, 0, 372), (7, 3, 7, 0, 271), (7, 9, 1, 1, 272), (7, 20, 1, 10, 274), (7, 31, 1, 3, 276), (8, 3, 7, 0, 323), (8, 114, 5, 0, 965), (8, 119, 4, 0, 966), (8, 154, 9, 4, 1011), (9, 3, 7, 0, 50), (9, 9, 1, 6, 51), (9, 18, 1, 4, 71), (10, 3, 7, 0, 210), (10, 40, 5, 0, 483), (11, 1, 7, 0, 1035), (11, 96, 10, 16777215, 1173), (11, 180, 11, 255, 1285), (11, 248, 10, 200000, 1412), (12, 8, 1, 0, 22), (12, 71, 1, 11, 1030), (12, 119, 11, 4294967295, 1417)]
theorem pg_lk_tab : ∀ q ∈ pg_lk, tables_1[q.2.2.2.2]? = some (pg_lw q) := by decide +kernel
def pg_ip : List Nat := [1, 6, 2, 10, 5, 7, 4, 9, 11, 3, 8, 14, 0, 13]
theorem pg_ini : ∀ i, i < 14 → tables_1[mc_nth pg_ip i 0]? = some (.initialized (pg_cn i)) := by decide +kernel
theorem pg_ins : ∀ i, i < 12 → tables_1[mc_nth pg_cp i 0]? = some (.instantiable (pg_cn i) (mc_nth [8, 2, 2, 3, 10, 6, 2, 8, 11, 5, 8, 35] i 0)) := by decide +kernel
theorem wd_objI : (.instanceMethod objectInit : Cond) ∈ tables_1 := List.mem_of_getElem? (i := 28) (by decide +kernel)
theorem wd_objC : (.code objectInit ⟨#[0xb1]⟩ 1 none : Cond) ∈ tables_1 := List.mem_of_getElem? (i := 29) (by decide +kernel)
theorem wd_maxS : (.static Lib.Math.max.name : Cond) ∈ tables_1 := List.mem_of_getElem? (i := 362) (by decide +kernel)
theorem wd_minS : (.static Lib.Math.min.name : Cond) ∈ tables_1 := List.mem_of_getElem? (i := 359) (by decide +kernel)
theorem wd_maxC : (.code Lib.Math.max.name Lib.Math.max.code 2 (some .int) : Cond) ∈ tables_1 := List.mem_of_getElem? (i := 363) (by decide +kernel)
theorem wd_minC : (.code Lib.Math.min.name Lib.Math.min.code 2 (some .int) : Cond) ∈ tables_1 := List.mem_of_getElem? (i := 360) (by decide +kernel)
theorem wd_math : (.initialized "java/lang/Math" : Cond) ∈ tables_1 := List.mem_of_getElem? (i := 12) (by decide +kernel)
theorem wd_sys : (.initialized "java/lang/System" : Cond) ∈ tables_1 := List.mem_of_getElem? (i := 21) (by decide +kernel)
theorem wd_acS : (.static arraycopyName : Cond) ∈ tables_1 := List.mem_of_getElem? (i := 896) (by decide +kernel)
theorem wd_acN : (.native arraycopyName : Cond) ∈ tables_1 := List.mem_of_getElem? (i := 897) (by decide +kernel)
theorem wd_arrI : (.arrayClass .int : Cond) ∈ tables_1 := List.mem_of_getElem? (i := 44) (by decide +kernel)
theorem wd_arrL : (.arrayClass .long : Cond) ∈ tables_1 := List.mem_of_getElem? (i := 1418) (by decide +kernel)
theorem wd_over : (.arrayOver (.object "PaletteReel$Frame") : Cond) ∈ tables_1 := List.mem_of_getElem? (i := 72) (by decide +kernel)
