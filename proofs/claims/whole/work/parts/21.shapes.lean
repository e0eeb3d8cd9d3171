/-- the cells of the system, and of the reference behind them -/
def SHc : List Shp := [.inr (9, [some (some 1), none, some (some 2), some (some 10), some (some 25), some (some 29), some (some 35), some (some 38), some (some 46), some (some 54), some (some 55), some (some 61), some (some 63)]), .inl 800, .inr (7, [none, none, none, none, none, none, none, none, some (some 3), some (some 4), some (some 5), some (some 6), some (some 7), some (some 8), some (some 9)]), .inl 7, .inl 7, .inl 6, .inl 6, .inl 84, .inl 12, .inl 12, .inr (4, [some (some 11), none, none, some (some 19), some (some 20), some (some 21), some (some 22), none, none, none, none, none, none, some (some 23), some (some 24)]), .inr (7, [none, none, none, none, none, none, none, none, some (some 12), some (some 13), some (some 14), some (some 15), some (some 16), some (some 17), some (some 18)]), .inl 7, .inl 7, .inl 6, .inl 6, .inl 84, .inl 12, .inl 12, .inl 13, .inl 801, .inl 801, .inl 801, .inl 6, .inl 7, .inr (8, [some (some 26), some (some 27), some (some 28), none]), .inl 6, .inl 49, .inl 448, .inr (2, [some (some 2), some (some 30), some (some 31), some (some 32), some (some 33), some (some 34), none]), .inl 64, .inl 64, .inl 64, .inl 64, .inl 64, .inr (6, [none, some (some 2), some (some 29), some (some 36), some (some 37)]), .inl 6, .inl 6, .inr (5, [some (some 39), some (some 40), some (some 41), some (some 42), some (some 43), none, none, some (some 2), some (some 29), some (some 44), some (some 45)]), .inl 6, .inl 84, .inl 84, .inl 84, .inl 84, .inl 14, .inl 6, .inr (5, [some (some 47), some (some 48), some (some 49), some (some 50), some (some 51), none, none, some (some 2), some (some 29), some (some 52), some (some 53)]), .inl 6, .inl 84, .inl 84, .inl 84, .inl 84, .inl 14, .inl 6, .inr (3, [none, none, none, some (some 2)]), .inr (1, [some (some 2), some (some 29), some (some 56), some (some 57), some (some 58), some (some 59), some (some 60)]), .inl 16, .inl 16, .inl 16, .inl 6, .inl 6, .inr (0, [none, some (some 62)]), .inl 84, .inl 6]
def SHm : List Shp := [.inr (10, [none, some (some 65), some (some 66), some (some 67), some (some 68), some (some 69), some (some 70), some (some 71), some (some 72), some (some 73), some (some 74), some (some 75), none, some (some 76), none, none, none, none, none, none, none, none, none, none, some (some 77), some (some 78), some (some 79), some (some 80), some (some 81), some (some 82), some (some 83), some (some 84), some (some 85), some (some 86), some (some 87), some (some 88), some (some 89), some (some 90), some (some 91), none]), .inl 20, .inl 12, .inl 12, .inl 12, .inl 12, .inl 12, .inl 84, .inl 24, .inl 24, .inl 24, .inl 6, .inl 800, .inl 448, .inl 6, .inl 84, .inl 84, .inl 84, .inl 84, .inl 64, .inl 64, .inl 64, .inl 6, .inl 6, .inl 256, .inl 84, .inl 6, .inl 84]
theorem sh_0 {ext : List Shp} : (SHc ++ ext)[0]? = some (.inr (9, [some (some 1), none, some (some 2), some (some 10), some (some 25), some (some 29), some (some 35), some (some 38), some (some 46), some (some 54), some (some 55), some (some 61), some (some 63)])) := rfl
theorem sh_1 {ext : List Shp} : (SHc ++ ext)[1]? = some (.inl 800) := rfl
theorem sh_2 {ext : List Shp} : (SHc ++ ext)[2]? = some (.inr (7, [none, none, none, none, none, none, none, none, some (some 3), some (some 4), some (some 5), some (some 6), some (some 7), some (some 8), some (some 9)])) := rfl
theorem sh_3 {ext : List Shp} : (SHc ++ ext)[3]? = some (.inl 7) := rfl
theorem sh_4 {ext : List Shp} : (SHc ++ ext)[4]? = some (.inl 7) := rfl
theorem sh_5 {ext : List Shp} : (SHc ++ ext)[5]? = some (.inl 6) := rfl
theorem sh_6 {ext : List Shp} : (SHc ++ ext)[6]? = some (.inl 6) := rfl
theorem sh_7 {ext : List Shp} : (SHc ++ ext)[7]? = some (.inl 84) := rfl
theorem sh_8 {ext : List Shp} : (SHc ++ ext)[8]? = some (.inl 12) := rfl
theorem sh_9 {ext : List Shp} : (SHc ++ ext)[9]? = some (.inl 12) := rfl
theorem sh_10 {ext : List Shp} : (SHc ++ ext)[10]? = some (.inr (4, [some (some 11), none, none, some (some 19), some (some 20), some (some 21), some (some 22), none, none, none, none, none, none, some (some 23), some (some 24)])) := rfl
theorem sh_11 {ext : List Shp} : (SHc ++ ext)[11]? = some (.inr (7, [none, none, none, none, none, none, none, none, some (some 12), some (some 13), some (some 14), some (some 15), some (some 16), some (some 17), some (some 18)])) := rfl
theorem sh_12 {ext : List Shp} : (SHc ++ ext)[12]? = some (.inl 7) := rfl
theorem sh_13 {ext : List Shp} : (SHc ++ ext)[13]? = some (.inl 7) := rfl
theorem sh_14 {ext : List Shp} : (SHc ++ ext)[14]? = some (.inl 6) := rfl
theorem sh_15 {ext : List Shp} : (SHc ++ ext)[15]? = some (.inl 6) := rfl
theorem sh_16 {ext : List Shp} : (SHc ++ ext)[16]? = some (.inl 84) := rfl
theorem sh_17 {ext : List Shp} : (SHc ++ ext)[17]? = some (.inl 12) := rfl
theorem sh_18 {ext : List Shp} : (SHc ++ ext)[18]? = some (.inl 12) := rfl
theorem sh_19 {ext : List Shp} : (SHc ++ ext)[19]? = some (.inl 13) := rfl
theorem sh_20 {ext : List Shp} : (SHc ++ ext)[20]? = some (.inl 801) := rfl
theorem sh_21 {ext : List Shp} : (SHc ++ ext)[21]? = some (.inl 801) := rfl
theorem sh_22 {ext : List Shp} : (SHc ++ ext)[22]? = some (.inl 801) := rfl
theorem sh_23 {ext : List Shp} : (SHc ++ ext)[23]? = some (.inl 6) := rfl
theorem sh_24 {ext : List Shp} : (SHc ++ ext)[24]? = some (.inl 7) := rfl
theorem sh_25 {ext : List Shp} : (SHc ++ ext)[25]? = some (.inr (8, [some (some 26), some (some 27), some (some 28), none])) := rfl
theorem sh_26 {ext : List Shp} : (SHc ++ ext)[26]? = some (.inl 6) := rfl
theorem sh_27 {ext : List Shp} : (SHc ++ ext)[27]? = some (.inl 49) := rfl
theorem sh_28 {ext : List Shp} : (SHc ++ ext)[28]? = some (.inl 448) := rfl
theorem sh_29 {ext : List Shp} : (SHc ++ ext)[29]? = some (.inr (2, [some (some 2), some (some 30), some (some 31), some (some 32), some (some 33), some (some 34), none])) := rfl
theorem sh_30 {ext : List Shp} : (SHc ++ ext)[30]? = some (.inl 64) := rfl
theorem sh_31 {ext : List Shp} : (SHc ++ ext)[31]? = some (.inl 64) := rfl
theorem sh_32 {ext : List Shp} : (SHc ++ ext)[32]? = some (.inl 64) := rfl
theorem sh_33 {ext : List Shp} : (SHc ++ ext)[33]? = some (.inl 64) := rfl
theorem sh_34 {ext : List Shp} : (SHc ++ ext)[34]? = some (.inl 64) := rfl
theorem sh_35 {ext : List Shp} : (SHc ++ ext)[35]? = some (.inr (6, [none, some (some 2), some (some 29), some (some 36), some (some 37)])) := rfl
theorem sh_36 {ext : List Shp} : (SHc ++ ext)[36]? = some (.inl 6) := rfl
theorem sh_37 {ext : List Shp} : (SHc ++ ext)[37]? = some (.inl 6) := rfl
theorem sh_38 {ext : List Shp} : (SHc ++ ext)[38]? = some (.inr (5, [some (some 39), some (some 40), some (some 41), some (some 42), some (some 43), none, none, some (some 2), some (some 29), some (some 44), some (some 45)])) := rfl
theorem sh_39 {ext : List Shp} : (SHc ++ ext)[39]? = some (.inl 6) := rfl
theorem sh_40 {ext : List Shp} : (SHc ++ ext)[40]? = some (.inl 84) := rfl
theorem sh_41 {ext : List Shp} : (SHc ++ ext)[41]? = some (.inl 84) := rfl
theorem sh_42 {ext : List Shp} : (SHc ++ ext)[42]? = some (.inl 84) := rfl
theorem sh_43 {ext : List Shp} : (SHc ++ ext)[43]? = some (.inl 84) := rfl
theorem sh_44 {ext : List Shp} : (SHc ++ ext)[44]? = some (.inl 14) := rfl
theorem sh_45 {ext : List Shp} : (SHc ++ ext)[45]? = some (.inl 6) := rfl
theorem sh_46 {ext : List Shp} : (SHc ++ ext)[46]? = some (.inr (5, [some (some 47), some (some 48), some (some 49), some (some 50), some (some 51), none, none, some (some 2), some (some 29), some (some 52), some (some 53)])) := rfl
theorem sh_47 {ext : List Shp} : (SHc ++ ext)[47]? = some (.inl 6) := rfl
theorem sh_48 {ext : List Shp} : (SHc ++ ext)[48]? = some (.inl 84) := rfl
theorem sh_49 {ext : List Shp} : (SHc ++ ext)[49]? = some (.inl 84) := rfl
theorem sh_50 {ext : List Shp} : (SHc ++ ext)[50]? = some (.inl 84) := rfl
theorem sh_51 {ext : List Shp} : (SHc ++ ext)[51]? = some (.inl 84) := rfl
theorem sh_52 {ext : List Shp} : (SHc ++ ext)[52]? = some (.inl 14) := rfl
theorem sh_53 {ext : List Shp} : (SHc ++ ext)[53]? = some (.inl 6) := rfl
theorem sh_54 {ext : List Shp} : (SHc ++ ext)[54]? = some (.inr (3, [none, none, none, some (some 2)])) := rfl
theorem sh_55 {ext : List Shp} : (SHc ++ ext)[55]? = some (.inr (1, [some (some 2), some (some 29), some (some 56), some (some 57), some (some 58), some (some 59), some (some 60)])) := rfl
theorem sh_56 {ext : List Shp} : (SHc ++ ext)[56]? = some (.inl 16) := rfl
theorem sh_57 {ext : List Shp} : (SHc ++ ext)[57]? = some (.inl 16) := rfl
theorem sh_58 {ext : List Shp} : (SHc ++ ext)[58]? = some (.inl 16) := rfl
theorem sh_59 {ext : List Shp} : (SHc ++ ext)[59]? = some (.inl 6) := rfl
theorem sh_60 {ext : List Shp} : (SHc ++ ext)[60]? = some (.inl 6) := rfl
theorem sh_61 {ext : List Shp} : (SHc ++ ext)[61]? = some (.inr (0, [none, some (some 62)])) := rfl
theorem sh_62 {ext : List Shp} : (SHc ++ ext)[62]? = some (.inl 84) := rfl
theorem sh_63 {ext : List Shp} : (SHc ++ ext)[63]? = some (.inl 6) := rfl
theorem sh_64 : (SHc ++ SHm)[64]? = some (.inr (10, [none, some (some 65), some (some 66), some (some 67), some (some 68), some (some 69), some (some 70), some (some 71), some (some 72), some (some 73), some (some 74), some (some 75), none, some (some 76), none, none, none, none, none, none, none, none, none, none, some (some 77), some (some 78), some (some 79), some (some 80), some (some 81), some (some 82), some (some 83), some (some 84), some (some 85), some (some 86), some (some 87), some (some 88), some (some 89), some (some 90), some (some 91), none])) := rfl
theorem sh_65 : (SHc ++ SHm)[65]? = some (.inl 20) := rfl
theorem sh_66 : (SHc ++ SHm)[66]? = some (.inl 12) := rfl
theorem sh_67 : (SHc ++ SHm)[67]? = some (.inl 12) := rfl
theorem sh_68 : (SHc ++ SHm)[68]? = some (.inl 12) := rfl
theorem sh_69 : (SHc ++ SHm)[69]? = some (.inl 12) := rfl
theorem sh_70 : (SHc ++ SHm)[70]? = some (.inl 12) := rfl
theorem sh_71 : (SHc ++ SHm)[71]? = some (.inl 84) := rfl
theorem sh_72 : (SHc ++ SHm)[72]? = some (.inl 24) := rfl
theorem sh_73 : (SHc ++ SHm)[73]? = some (.inl 24) := rfl
theorem sh_74 : (SHc ++ SHm)[74]? = some (.inl 24) := rfl
theorem sh_75 : (SHc ++ SHm)[75]? = some (.inl 6) := rfl
theorem sh_76 : (SHc ++ SHm)[76]? = some (.inl 800) := rfl
theorem sh_77 : (SHc ++ SHm)[77]? = some (.inl 448) := rfl
theorem sh_78 : (SHc ++ SHm)[78]? = some (.inl 6) := rfl
theorem sh_79 : (SHc ++ SHm)[79]? = some (.inl 84) := rfl
theorem sh_80 : (SHc ++ SHm)[80]? = some (.inl 84) := rfl
theorem sh_81 : (SHc ++ SHm)[81]? = some (.inl 84) := rfl
theorem sh_82 : (SHc ++ SHm)[82]? = some (.inl 84) := rfl
theorem sh_83 : (SHc ++ SHm)[83]? = some (.inl 64) := rfl
theorem sh_84 : (SHc ++ SHm)[84]? = some (.inl 64) := rfl
theorem sh_85 : (SHc ++ SHm)[85]? = some (.inl 64) := rfl
theorem sh_86 : (SHc ++ SHm)[86]? = some (.inl 6) := rfl
theorem sh_87 : (SHc ++ SHm)[87]? = some (.inl 6) := rfl
theorem sh_88 : (SHc ++ SHm)[88]? = some (.inl 256) := rfl
theorem sh_89 : (SHc ++ SHm)[89]? = some (.inl 84) := rfl
theorem sh_90 : (SHc ++ SHm)[90]? = some (.inl 6) := rfl
theorem sh_91 : (SHc ++ SHm)[91]? = some (.inl 84) := rfl
/-- a cell that is a ShelfDrives$Run, its arrays behind it -/
def is_X5 (SH : List Shp) (k : Nat) : Prop := SH[k]? = some (.inr (5, [some (some (k + 1)), some (some (k + 2)), some (some (k + 3)), some (some (k + 4)), some (some (k + 5)), none, none, some (some 2), some (some 29), some (some (k + 6)), some (some (k + 7))])) ∧ SH[k + 1]? = some (.inl 6) ∧ SH[k + 2]? = some (.inl 84) ∧ SH[k + 3]? = some (.inl 84) ∧ SH[k + 4]? = some (.inl 84) ∧ SH[k + 5]? = some (.inl 84) ∧ SH[k + 6]? = some (.inl 14) ∧ SH[k + 7]? = some (.inl 6)
theorem is_X5_38 {ext : List Shp} : is_X5 (SHc ++ ext) 38 := ⟨rfl, rfl, rfl, rfl, rfl, rfl, rfl, rfl⟩
theorem is_X5_46 {ext : List Shp} : is_X5 (SHc ++ ext) 46 := ⟨rfl, rfl, rfl, rfl, rfl, rfl, rfl, rfl⟩
/-- a cell that is a ShelfDrives$Town, its arrays behind it -/
def is_X7 (SH : List Shp) (k : Nat) : Prop := SH[k]? = some (.inr (7, [none, none, none, none, none, none, none, none, some (some (k + 1)), some (some (k + 2)), some (some (k + 3)), some (some (k + 4)), some (some (k + 5)), some (some (k + 6)), some (some (k + 7))])) ∧ SH[k + 1]? = some (.inl 7) ∧ SH[k + 2]? = some (.inl 7) ∧ SH[k + 3]? = some (.inl 6) ∧ SH[k + 4]? = some (.inl 6) ∧ SH[k + 5]? = some (.inl 84) ∧ SH[k + 6]? = some (.inl 12) ∧ SH[k + 7]? = some (.inl 12)
theorem is_X7_2 {ext : List Shp} : is_X7 (SHc ++ ext) 2 := ⟨rfl, rfl, rfl, rfl, rfl, rfl, rfl, rfl⟩
theorem is_X7_11 {ext : List Shp} : is_X7 (SHc ++ ext) 11 := ⟨rfl, rfl, rfl, rfl, rfl, rfl, rfl, rfl⟩
