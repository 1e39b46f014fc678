abbrev MM : Type := (Nat → Nat → Int32) × (Nat → Nat → Int64) × (Nat → Nat → Nat)
abbrev SHP : Type := (Nat × Nat × Nat × Nat) ⊕ (Nat × List Nat)
def skX0 : List Nat := [3, 4, 5, 0]
def skX1 : List Nat := [3, 4, 5, 6, 7, 0, 0, 0, 0, 0, 0, 0, 0]
def skX2 : List Nat := [3, 4, 5, 6, 7, 8, 0]
def skX3 : List Nat := [3, 4, 5, 6, 0]
def skX4 : List Nat := [3, 4, 5, 6, 1, 1, 0, 0, 0, 0, 0, 0, 0, 0, 0, 0, 0, 0]
def skX5 : List Nat := [3, 4, 0, 0, 0, 0, 0]
def skX6 : List Nat := [3, 4, 5, 6, 7, 8, 9, 0, 0]
def skX7 : List Nat := [3, 4, 5, 6, 0, 0]
def skX8 : List Nat := [3, 4, 5, 6, 7, 8, 9, 10, 0, 0, 0, 0, 0, 0, 0, 0]
def skX9 : List Nat := [3, 4, 5, 26, 0, 0, 0]
def skX10 : List Nat := [3, 4, 0]
def skX11 : List Nat := [3, 7, 40, 43, 88, 93, 97, 100, 101, 1, 1]
def skX12 : List Nat := [0, 3, 0, 4, 5, 6, 7, 0, 0, 0, 0, 0, 8, 9, 10, 11, 12, 13, 14, 15, 16, 17, 18, 19, 20, 0, 21, 22, 23, 0, 0, 24, 0, 0, 25, 0, 26, 27, 28, 29, 0, 0, 0, 30, 31, 32, 33, 34, 0, 0, 0, 35, 36]
def SHL : List SHP := [
  .inr (11, skX11),
  .inr (4, skX4),
  .inl (3, 28, 0, 0),
  .inl (0, 28, 0, 0),
  .inl (0, 400, 0, 0),
  .inr (7, skX7),
  .inl (1, 2000, 0, 0),
  .inl (0, 401, 0, 0),
  .inl (0, 401, 0, 0),
  .inl (3, 401, 0, 0),
  .inr (8, skX8),
  .inl (0, 16, 0, 0),
  .inl (0, 16, 0, 0),
  .inl (0, 12, 0, 0),
  .inl (0, 12, 0, 0),
  .inl (0, 12, 0, 0),
  .inl (0, 12, 0, 0),
  .inl (0, 8, 0, 0),
  .inr (1, skX1),
  .inl (0, 400, 0, 0),
  .inl (0, 4, 0, 0),
  .inl (0, 4, 0, 0),
  .inl (0, 9, 0, 0),
  .inl (0, 32, 0, 0),
  .inr (6, skX6),
  .inl (0, 16, 0, 0),
  .inl (0, 16, 0, 0),
  .inl (0, 8, 0, 0),
  .inl (0, 40, 0, 0),
  .inl (0, 40, 0, 0),
  .inl (0, 40, 0, 0),
  .inr (2, skX2),
  .inl (0, 60, 0, 0),
  .inl (0, 60, 0, 0),
  .inl (0, 60, 0, 0),
  .inl (0, 60, 0, 0),
  .inl (2, 60, 0, 0),
  .inl (0, 16, 0, 0),
  .inr (10, skX10),
  .inl (0, 900, 0, 0),
  .inl (0, 8, 0, 0),
  .inr (9, skX9),
  .inl (0, 16, 0, 0),
  .inl (0, 8, 0, 0),
  .inl (5, 20, 1, 1),
  .inl (0, 16, 0, 0),
  .inl (0, 16, 0, 0),
  .inl (0, 16, 0, 0),
  .inl (0, 16, 0, 0),
  .inl (0, 16, 0, 0),
  .inl (0, 16, 0, 0),
  .inl (0, 16, 0, 0),
  .inl (0, 16, 0, 0),
  .inl (0, 16, 0, 0),
  .inl (0, 16, 0, 0),
  .inl (0, 16, 0, 0),
  .inl (0, 16, 0, 0),
  .inl (0, 16, 0, 0),
  .inl (0, 16, 0, 0),
  .inl (0, 16, 0, 0),
  .inl (0, 16, 0, 0),
  .inl (0, 16, 0, 0),
  .inl (0, 16, 0, 0),
  .inl (0, 16, 0, 0),
  .inl (0, 16, 0, 0),
  .inl (5, 20, 1, 1),
  .inl (0, 8, 0, 0),
  .inl (0, 8, 0, 0),
  .inl (0, 8, 0, 0),
  .inl (0, 8, 0, 0),
  .inl (0, 8, 0, 0),
  .inl (0, 8, 0, 0),
  .inl (0, 8, 0, 0),
  .inl (0, 8, 0, 0),
  .inl (0, 8, 0, 0),
  .inl (0, 8, 0, 0),
  .inl (0, 8, 0, 0),
  .inl (0, 8, 0, 0),
  .inl (0, 8, 0, 0),
  .inl (0, 8, 0, 0),
  .inl (0, 8, 0, 0),
  .inl (0, 8, 0, 0),
  .inl (0, 8, 0, 0),
  .inl (0, 8, 0, 0),
  .inl (0, 8, 0, 0),
  .inl (0, 8, 0, 0),
  .inr (3, skX3),
  .inl (0, 8, 0, 0),
  .inl (0, 16, 0, 0),
  .inl (0, 8, 0, 0),
  .inl (0, 256, 0, 0),
  .inr (0, skX0),
  .inl (0, 16, 0, 0),
  .inl (0, 16, 0, 0),
  .inl (0, 256, 0, 0),
  .inr (5, skX5),
  .inl (0, 12, 0, 0),
  .inl (0, 1300, 0, 0),
  .inl (4, 2, 30, 14),
  .inl (2, 2, 0, 0),
  .inr (8, skX8),
  .inl (0, 16, 0, 0),
  .inl (0, 16, 0, 0),
  .inl (0, 12, 0, 0),
  .inl (0, 12, 0, 0),
  .inl (0, 12, 0, 0),
  .inl (0, 12, 0, 0),
  .inl (0, 8, 0, 0),
  .inr (1, skX1),
  .inl (0, 400, 0, 0),
  .inl (0, 4, 0, 0),
  .inl (0, 4, 0, 0),
  .inl (0, 9, 0, 0),
  .inl (0, 32, 0, 0),
  .inr (6, skX6),
  .inl (0, 16, 0, 0),
  .inl (0, 16, 0, 0),
  .inl (0, 8, 0, 0),
  .inl (0, 40, 0, 0),
  .inl (0, 40, 0, 0),
  .inl (0, 40, 0, 0),
  .inr (2, skX2),
  .inl (0, 60, 0, 0),
  .inl (0, 60, 0, 0),
  .inl (0, 60, 0, 0),
  .inl (0, 60, 0, 0),
  .inl (2, 60, 0, 0),
  .inl (0, 16, 0, 0),
  .inr (6, skX6),
  .inl (0, 16, 0, 0),
  .inl (0, 16, 0, 0),
  .inl (0, 8, 0, 0),
  .inl (0, 40, 0, 0),
  .inl (0, 40, 0, 0),
  .inl (0, 40, 0, 0),
  .inr (2, skX2),
  .inl (0, 60, 0, 0),
  .inl (0, 60, 0, 0),
  .inl (0, 60, 0, 0),
  .inl (0, 60, 0, 0),
  .inl (2, 60, 0, 0),
  .inl (0, 16, 0, 0),
  .inr (6, skX6),
  .inl (0, 16, 0, 0),
  .inl (0, 16, 0, 0),
  .inl (0, 8, 0, 0),
  .inl (0, 40, 0, 0),
  .inl (0, 40, 0, 0),
  .inl (0, 40, 0, 0),
  .inr (2, skX2),
  .inl (0, 60, 0, 0),
  .inl (0, 60, 0, 0),
  .inl (0, 60, 0, 0),
  .inl (0, 60, 0, 0),
  .inl (2, 60, 0, 0),
  .inl (0, 16, 0, 0),
  .inr (12, skX12),
  .inl (0, 2000, 0, 0),
  .inl (0, 2001, 0, 0),
  .inl (0, 2001, 0, 0),
  .inl (0, 2001, 0, 0),
  .inl (3, 2001, 0, 0),
  .inl (0, 420, 0, 0),
  .inl (0, 1260, 0, 0),
  .inl (0, 2, 0, 0),
  .inl (0, 1000, 0, 0),
  .inl (0, 1000, 0, 0),
  .inl (0, 2, 0, 0),
  .inl (2, 400, 0, 0),
  .inl (0, 400, 0, 0),
  .inl (0, 400, 0, 0),
  .inl (0, 400, 0, 0),
  .inl (0, 400, 0, 0),
  .inl (0, 400, 0, 0),
  .inl (2, 3, 0, 0),
  .inl (3, 30, 0, 0),
  .inl (0, 30, 0, 0),
  .inl (0, 30, 0, 0),
  .inl (0, 500, 0, 0),
  .inl (0, 9, 0, 0),
  .inl (0, 500, 0, 0),
  .inl (0, 900, 0, 0),
  .inl (0, 8, 0, 0),
  .inl (0, 504, 0, 0),
  .inl (0, 16, 0, 0),
  .inl (0, 16, 0, 0),
  .inl (2, 256, 0, 0),
  .inl (0, 256, 0, 0),
  .inl (0, 16, 0, 0),
  .inl (0, 12, 0, 0),
  .inl (0, 1300, 0, 0)
]
abbrev nS : Nat := 191
theorem nS_ok : SHL.length = nS := by decide +kernel
theorem sh_0 : SHL[(0 : Nat)]? = some (.inr (11, skX11)) := rfl
theorem sh_1 : SHL[(1 : Nat)]? = some (.inr (4, skX4)) := rfl
theorem sh_2 : SHL[(2 : Nat)]? = some (.inl (3, 28, 0, 0)) := rfl
theorem sh_3 : SHL[(3 : Nat)]? = some (.inl (0, 28, 0, 0)) := rfl
theorem sh_4 : SHL[(4 : Nat)]? = some (.inl (0, 400, 0, 0)) := rfl
theorem sh_5 : SHL[(5 : Nat)]? = some (.inr (7, skX7)) := rfl
theorem sh_6 : SHL[(6 : Nat)]? = some (.inl (1, 2000, 0, 0)) := rfl
theorem sh_7 : SHL[(7 : Nat)]? = some (.inl (0, 401, 0, 0)) := rfl
theorem sh_8 : SHL[(8 : Nat)]? = some (.inl (0, 401, 0, 0)) := rfl
theorem sh_9 : SHL[(9 : Nat)]? = some (.inl (3, 401, 0, 0)) := rfl
theorem sh_10 : SHL[(10 : Nat)]? = some (.inr (8, skX8)) := rfl
theorem sh_11 : SHL[(11 : Nat)]? = some (.inl (0, 16, 0, 0)) := rfl
theorem sh_12 : SHL[(12 : Nat)]? = some (.inl (0, 16, 0, 0)) := rfl
theorem sh_13 : SHL[(13 : Nat)]? = some (.inl (0, 12, 0, 0)) := rfl
theorem sh_14 : SHL[(14 : Nat)]? = some (.inl (0, 12, 0, 0)) := rfl
theorem sh_15 : SHL[(15 : Nat)]? = some (.inl (0, 12, 0, 0)) := rfl
theorem sh_16 : SHL[(16 : Nat)]? = some (.inl (0, 12, 0, 0)) := rfl
theorem sh_17 : SHL[(17 : Nat)]? = some (.inl (0, 8, 0, 0)) := rfl
theorem sh_18 : SHL[(18 : Nat)]? = some (.inr (1, skX1)) := rfl
theorem sh_19 : SHL[(19 : Nat)]? = some (.inl (0, 400, 0, 0)) := rfl
theorem sh_20 : SHL[(20 : Nat)]? = some (.inl (0, 4, 0, 0)) := rfl
theorem sh_21 : SHL[(21 : Nat)]? = some (.inl (0, 4, 0, 0)) := rfl
theorem sh_22 : SHL[(22 : Nat)]? = some (.inl (0, 9, 0, 0)) := rfl
theorem sh_23 : SHL[(23 : Nat)]? = some (.inl (0, 32, 0, 0)) := rfl
theorem sh_24 : SHL[(24 : Nat)]? = some (.inr (6, skX6)) := rfl
theorem sh_25 : SHL[(25 : Nat)]? = some (.inl (0, 16, 0, 0)) := rfl
theorem sh_26 : SHL[(26 : Nat)]? = some (.inl (0, 16, 0, 0)) := rfl
theorem sh_27 : SHL[(27 : Nat)]? = some (.inl (0, 8, 0, 0)) := rfl
theorem sh_28 : SHL[(28 : Nat)]? = some (.inl (0, 40, 0, 0)) := rfl
theorem sh_29 : SHL[(29 : Nat)]? = some (.inl (0, 40, 0, 0)) := rfl
theorem sh_30 : SHL[(30 : Nat)]? = some (.inl (0, 40, 0, 0)) := rfl
theorem sh_31 : SHL[(31 : Nat)]? = some (.inr (2, skX2)) := rfl
theorem sh_32 : SHL[(32 : Nat)]? = some (.inl (0, 60, 0, 0)) := rfl
theorem sh_33 : SHL[(33 : Nat)]? = some (.inl (0, 60, 0, 0)) := rfl
theorem sh_34 : SHL[(34 : Nat)]? = some (.inl (0, 60, 0, 0)) := rfl
theorem sh_35 : SHL[(35 : Nat)]? = some (.inl (0, 60, 0, 0)) := rfl
theorem sh_36 : SHL[(36 : Nat)]? = some (.inl (2, 60, 0, 0)) := rfl
theorem sh_37 : SHL[(37 : Nat)]? = some (.inl (0, 16, 0, 0)) := rfl
theorem sh_38 : SHL[(38 : Nat)]? = some (.inr (10, skX10)) := rfl
theorem sh_39 : SHL[(39 : Nat)]? = some (.inl (0, 900, 0, 0)) := rfl
theorem sh_40 : SHL[(40 : Nat)]? = some (.inl (0, 8, 0, 0)) := rfl
theorem sh_41 : SHL[(41 : Nat)]? = some (.inr (9, skX9)) := rfl
theorem sh_42 : SHL[(42 : Nat)]? = some (.inl (0, 16, 0, 0)) := rfl
theorem sh_43 : SHL[(43 : Nat)]? = some (.inl (0, 8, 0, 0)) := rfl
theorem sh_44 : SHL[(44 : Nat)]? = some (.inl (5, 20, 1, 1)) := rfl
theorem sh_45 : SHL[(45 : Nat)]? = some (.inl (0, 16, 0, 0)) := rfl
theorem sh_46 : SHL[(46 : Nat)]? = some (.inl (0, 16, 0, 0)) := rfl
theorem sh_47 : SHL[(47 : Nat)]? = some (.inl (0, 16, 0, 0)) := rfl
theorem sh_48 : SHL[(48 : Nat)]? = some (.inl (0, 16, 0, 0)) := rfl
theorem sh_49 : SHL[(49 : Nat)]? = some (.inl (0, 16, 0, 0)) := rfl
theorem sh_50 : SHL[(50 : Nat)]? = some (.inl (0, 16, 0, 0)) := rfl
theorem sh_51 : SHL[(51 : Nat)]? = some (.inl (0, 16, 0, 0)) := rfl
theorem sh_52 : SHL[(52 : Nat)]? = some (.inl (0, 16, 0, 0)) := rfl
theorem sh_53 : SHL[(53 : Nat)]? = some (.inl (0, 16, 0, 0)) := rfl
theorem sh_54 : SHL[(54 : Nat)]? = some (.inl (0, 16, 0, 0)) := rfl
theorem sh_55 : SHL[(55 : Nat)]? = some (.inl (0, 16, 0, 0)) := rfl
theorem sh_56 : SHL[(56 : Nat)]? = some (.inl (0, 16, 0, 0)) := rfl
theorem sh_57 : SHL[(57 : Nat)]? = some (.inl (0, 16, 0, 0)) := rfl
theorem sh_58 : SHL[(58 : Nat)]? = some (.inl (0, 16, 0, 0)) := rfl
theorem sh_59 : SHL[(59 : Nat)]? = some (.inl (0, 16, 0, 0)) := rfl
theorem sh_60 : SHL[(60 : Nat)]? = some (.inl (0, 16, 0, 0)) := rfl
theorem sh_61 : SHL[(61 : Nat)]? = some (.inl (0, 16, 0, 0)) := rfl
theorem sh_62 : SHL[(62 : Nat)]? = some (.inl (0, 16, 0, 0)) := rfl
theorem sh_63 : SHL[(63 : Nat)]? = some (.inl (0, 16, 0, 0)) := rfl
theorem sh_64 : SHL[(64 : Nat)]? = some (.inl (0, 16, 0, 0)) := rfl
theorem sh_65 : SHL[(65 : Nat)]? = some (.inl (5, 20, 1, 1)) := rfl
theorem sh_66 : SHL[(66 : Nat)]? = some (.inl (0, 8, 0, 0)) := rfl
theorem sh_67 : SHL[(67 : Nat)]? = some (.inl (0, 8, 0, 0)) := rfl
theorem sh_68 : SHL[(68 : Nat)]? = some (.inl (0, 8, 0, 0)) := rfl
theorem sh_69 : SHL[(69 : Nat)]? = some (.inl (0, 8, 0, 0)) := rfl
theorem sh_70 : SHL[(70 : Nat)]? = some (.inl (0, 8, 0, 0)) := rfl
theorem sh_71 : SHL[(71 : Nat)]? = some (.inl (0, 8, 0, 0)) := rfl
theorem sh_72 : SHL[(72 : Nat)]? = some (.inl (0, 8, 0, 0)) := rfl
theorem sh_73 : SHL[(73 : Nat)]? = some (.inl (0, 8, 0, 0)) := rfl
theorem sh_74 : SHL[(74 : Nat)]? = some (.inl (0, 8, 0, 0)) := rfl
theorem sh_75 : SHL[(75 : Nat)]? = some (.inl (0, 8, 0, 0)) := rfl
theorem sh_76 : SHL[(76 : Nat)]? = some (.inl (0, 8, 0, 0)) := rfl
theorem sh_77 : SHL[(77 : Nat)]? = some (.inl (0, 8, 0, 0)) := rfl
theorem sh_78 : SHL[(78 : Nat)]? = some (.inl (0, 8, 0, 0)) := rfl
theorem sh_79 : SHL[(79 : Nat)]? = some (.inl (0, 8, 0, 0)) := rfl
theorem sh_80 : SHL[(80 : Nat)]? = some (.inl (0, 8, 0, 0)) := rfl
theorem sh_81 : SHL[(81 : Nat)]? = some (.inl (0, 8, 0, 0)) := rfl
theorem sh_82 : SHL[(82 : Nat)]? = some (.inl (0, 8, 0, 0)) := rfl
theorem sh_83 : SHL[(83 : Nat)]? = some (.inl (0, 8, 0, 0)) := rfl
theorem sh_84 : SHL[(84 : Nat)]? = some (.inl (0, 8, 0, 0)) := rfl
theorem sh_85 : SHL[(85 : Nat)]? = some (.inl (0, 8, 0, 0)) := rfl
theorem sh_86 : SHL[(86 : Nat)]? = some (.inr (3, skX3)) := rfl
theorem sh_87 : SHL[(87 : Nat)]? = some (.inl (0, 8, 0, 0)) := rfl
theorem sh_88 : SHL[(88 : Nat)]? = some (.inl (0, 16, 0, 0)) := rfl
theorem sh_89 : SHL[(89 : Nat)]? = some (.inl (0, 8, 0, 0)) := rfl
theorem sh_90 : SHL[(90 : Nat)]? = some (.inl (0, 256, 0, 0)) := rfl
theorem sh_91 : SHL[(91 : Nat)]? = some (.inr (0, skX0)) := rfl
theorem sh_92 : SHL[(92 : Nat)]? = some (.inl (0, 16, 0, 0)) := rfl
theorem sh_93 : SHL[(93 : Nat)]? = some (.inl (0, 16, 0, 0)) := rfl
theorem sh_94 : SHL[(94 : Nat)]? = some (.inl (0, 256, 0, 0)) := rfl
theorem sh_95 : SHL[(95 : Nat)]? = some (.inr (5, skX5)) := rfl
theorem sh_96 : SHL[(96 : Nat)]? = some (.inl (0, 12, 0, 0)) := rfl
theorem sh_97 : SHL[(97 : Nat)]? = some (.inl (0, 1300, 0, 0)) := rfl
theorem sh_98 : SHL[(98 : Nat)]? = some (.inl (4, 2, 30, 14)) := rfl
theorem sh_99 : SHL[(99 : Nat)]? = some (.inl (2, 2, 0, 0)) := rfl
theorem sh_100 : SHL[(100 : Nat)]? = some (.inr (8, skX8)) := rfl
theorem sh_101 : SHL[(101 : Nat)]? = some (.inl (0, 16, 0, 0)) := rfl
theorem sh_102 : SHL[(102 : Nat)]? = some (.inl (0, 16, 0, 0)) := rfl
theorem sh_103 : SHL[(103 : Nat)]? = some (.inl (0, 12, 0, 0)) := rfl
theorem sh_104 : SHL[(104 : Nat)]? = some (.inl (0, 12, 0, 0)) := rfl
theorem sh_105 : SHL[(105 : Nat)]? = some (.inl (0, 12, 0, 0)) := rfl
theorem sh_106 : SHL[(106 : Nat)]? = some (.inl (0, 12, 0, 0)) := rfl
theorem sh_107 : SHL[(107 : Nat)]? = some (.inl (0, 8, 0, 0)) := rfl
theorem sh_108 : SHL[(108 : Nat)]? = some (.inr (1, skX1)) := rfl
theorem sh_109 : SHL[(109 : Nat)]? = some (.inl (0, 400, 0, 0)) := rfl
theorem sh_110 : SHL[(110 : Nat)]? = some (.inl (0, 4, 0, 0)) := rfl
theorem sh_111 : SHL[(111 : Nat)]? = some (.inl (0, 4, 0, 0)) := rfl
theorem sh_112 : SHL[(112 : Nat)]? = some (.inl (0, 9, 0, 0)) := rfl
theorem sh_113 : SHL[(113 : Nat)]? = some (.inl (0, 32, 0, 0)) := rfl
theorem sh_114 : SHL[(114 : Nat)]? = some (.inr (6, skX6)) := rfl
theorem sh_115 : SHL[(115 : Nat)]? = some (.inl (0, 16, 0, 0)) := rfl
theorem sh_116 : SHL[(116 : Nat)]? = some (.inl (0, 16, 0, 0)) := rfl
theorem sh_117 : SHL[(117 : Nat)]? = some (.inl (0, 8, 0, 0)) := rfl
theorem sh_118 : SHL[(118 : Nat)]? = some (.inl (0, 40, 0, 0)) := rfl
theorem sh_119 : SHL[(119 : Nat)]? = some (.inl (0, 40, 0, 0)) := rfl
theorem sh_120 : SHL[(120 : Nat)]? = some (.inl (0, 40, 0, 0)) := rfl
theorem sh_121 : SHL[(121 : Nat)]? = some (.inr (2, skX2)) := rfl
theorem sh_122 : SHL[(122 : Nat)]? = some (.inl (0, 60, 0, 0)) := rfl
theorem sh_123 : SHL[(123 : Nat)]? = some (.inl (0, 60, 0, 0)) := rfl
theorem sh_124 : SHL[(124 : Nat)]? = some (.inl (0, 60, 0, 0)) := rfl
theorem sh_125 : SHL[(125 : Nat)]? = some (.inl (0, 60, 0, 0)) := rfl
theorem sh_126 : SHL[(126 : Nat)]? = some (.inl (2, 60, 0, 0)) := rfl
theorem sh_127 : SHL[(127 : Nat)]? = some (.inl (0, 16, 0, 0)) := rfl
theorem sh_128 : SHL[(128 : Nat)]? = some (.inr (6, skX6)) := rfl
theorem sh_129 : SHL[(129 : Nat)]? = some (.inl (0, 16, 0, 0)) := rfl
theorem sh_130 : SHL[(130 : Nat)]? = some (.inl (0, 16, 0, 0)) := rfl
theorem sh_131 : SHL[(131 : Nat)]? = some (.inl (0, 8, 0, 0)) := rfl
theorem sh_132 : SHL[(132 : Nat)]? = some (.inl (0, 40, 0, 0)) := rfl
theorem sh_133 : SHL[(133 : Nat)]? = some (.inl (0, 40, 0, 0)) := rfl
theorem sh_134 : SHL[(134 : Nat)]? = some (.inl (0, 40, 0, 0)) := rfl
theorem sh_135 : SHL[(135 : Nat)]? = some (.inr (2, skX2)) := rfl
theorem sh_136 : SHL[(136 : Nat)]? = some (.inl (0, 60, 0, 0)) := rfl
theorem sh_137 : SHL[(137 : Nat)]? = some (.inl (0, 60, 0, 0)) := rfl
theorem sh_138 : SHL[(138 : Nat)]? = some (.inl (0, 60, 0, 0)) := rfl
theorem sh_139 : SHL[(139 : Nat)]? = some (.inl (0, 60, 0, 0)) := rfl
theorem sh_140 : SHL[(140 : Nat)]? = some (.inl (2, 60, 0, 0)) := rfl
theorem sh_141 : SHL[(141 : Nat)]? = some (.inl (0, 16, 0, 0)) := rfl
theorem sh_142 : SHL[(142 : Nat)]? = some (.inr (6, skX6)) := rfl
theorem sh_143 : SHL[(143 : Nat)]? = some (.inl (0, 16, 0, 0)) := rfl
theorem sh_144 : SHL[(144 : Nat)]? = some (.inl (0, 16, 0, 0)) := rfl
theorem sh_145 : SHL[(145 : Nat)]? = some (.inl (0, 8, 0, 0)) := rfl
theorem sh_146 : SHL[(146 : Nat)]? = some (.inl (0, 40, 0, 0)) := rfl
theorem sh_147 : SHL[(147 : Nat)]? = some (.inl (0, 40, 0, 0)) := rfl
theorem sh_148 : SHL[(148 : Nat)]? = some (.inl (0, 40, 0, 0)) := rfl
theorem sh_149 : SHL[(149 : Nat)]? = some (.inr (2, skX2)) := rfl
theorem sh_150 : SHL[(150 : Nat)]? = some (.inl (0, 60, 0, 0)) := rfl
theorem sh_151 : SHL[(151 : Nat)]? = some (.inl (0, 60, 0, 0)) := rfl
theorem sh_152 : SHL[(152 : Nat)]? = some (.inl (0, 60, 0, 0)) := rfl
theorem sh_153 : SHL[(153 : Nat)]? = some (.inl (0, 60, 0, 0)) := rfl
theorem sh_154 : SHL[(154 : Nat)]? = some (.inl (2, 60, 0, 0)) := rfl
theorem sh_155 : SHL[(155 : Nat)]? = some (.inl (0, 16, 0, 0)) := rfl
theorem sh_156 : SHL[(156 : Nat)]? = some (.inr (12, skX12)) := rfl
theorem sh_157 : SHL[(157 : Nat)]? = some (.inl (0, 2000, 0, 0)) := rfl
theorem sh_158 : SHL[(158 : Nat)]? = some (.inl (0, 2001, 0, 0)) := rfl
theorem sh_159 : SHL[(159 : Nat)]? = some (.inl (0, 2001, 0, 0)) := rfl
theorem sh_160 : SHL[(160 : Nat)]? = some (.inl (0, 2001, 0, 0)) := rfl
theorem sh_161 : SHL[(161 : Nat)]? = some (.inl (3, 2001, 0, 0)) := rfl
theorem sh_162 : SHL[(162 : Nat)]? = some (.inl (0, 420, 0, 0)) := rfl
theorem sh_163 : SHL[(163 : Nat)]? = some (.inl (0, 1260, 0, 0)) := rfl
theorem sh_164 : SHL[(164 : Nat)]? = some (.inl (0, 2, 0, 0)) := rfl
theorem sh_165 : SHL[(165 : Nat)]? = some (.inl (0, 1000, 0, 0)) := rfl
theorem sh_166 : SHL[(166 : Nat)]? = some (.inl (0, 1000, 0, 0)) := rfl
theorem sh_167 : SHL[(167 : Nat)]? = some (.inl (0, 2, 0, 0)) := rfl
theorem sh_168 : SHL[(168 : Nat)]? = some (.inl (2, 400, 0, 0)) := rfl
theorem sh_169 : SHL[(169 : Nat)]? = some (.inl (0, 400, 0, 0)) := rfl
theorem sh_170 : SHL[(170 : Nat)]? = some (.inl (0, 400, 0, 0)) := rfl
theorem sh_171 : SHL[(171 : Nat)]? = some (.inl (0, 400, 0, 0)) := rfl
theorem sh_172 : SHL[(172 : Nat)]? = some (.inl (0, 400, 0, 0)) := rfl
theorem sh_173 : SHL[(173 : Nat)]? = some (.inl (0, 400, 0, 0)) := rfl
theorem sh_174 : SHL[(174 : Nat)]? = some (.inl (2, 3, 0, 0)) := rfl
theorem sh_175 : SHL[(175 : Nat)]? = some (.inl (3, 30, 0, 0)) := rfl
theorem sh_176 : SHL[(176 : Nat)]? = some (.inl (0, 30, 0, 0)) := rfl
theorem sh_177 : SHL[(177 : Nat)]? = some (.inl (0, 30, 0, 0)) := rfl
theorem sh_178 : SHL[(178 : Nat)]? = some (.inl (0, 500, 0, 0)) := rfl
theorem sh_179 : SHL[(179 : Nat)]? = some (.inl (0, 9, 0, 0)) := rfl
theorem sh_180 : SHL[(180 : Nat)]? = some (.inl (0, 500, 0, 0)) := rfl
theorem sh_181 : SHL[(181 : Nat)]? = some (.inl (0, 900, 0, 0)) := rfl
theorem sh_182 : SHL[(182 : Nat)]? = some (.inl (0, 8, 0, 0)) := rfl
theorem sh_183 : SHL[(183 : Nat)]? = some (.inl (0, 504, 0, 0)) := rfl
theorem sh_184 : SHL[(184 : Nat)]? = some (.inl (0, 16, 0, 0)) := rfl
theorem sh_185 : SHL[(185 : Nat)]? = some (.inl (0, 16, 0, 0)) := rfl
theorem sh_186 : SHL[(186 : Nat)]? = some (.inl (2, 256, 0, 0)) := rfl
theorem sh_187 : SHL[(187 : Nat)]? = some (.inl (0, 256, 0, 0)) := rfl
theorem sh_188 : SHL[(188 : Nat)]? = some (.inl (0, 16, 0, 0)) := rfl
theorem sh_189 : SHL[(189 : Nat)]? = some (.inl (0, 12, 0, 0)) := rfl
theorem sh_190 : SHL[(190 : Nat)]? = some (.inl (0, 1300, 0, 0)) := rfl
def AtTown (t : Nat) : Prop := SHL[t]? = some (.inr (8, skX8)) ∧ SHL[t + 1]? = some (.inl (0, 16, 0, 0)) ∧ SHL[t + 2]? = some (.inl (0, 16, 0, 0)) ∧ SHL[t + 3]? = some (.inl (0, 12, 0, 0)) ∧ SHL[t + 4]? = some (.inl (0, 12, 0, 0)) ∧ SHL[t + 5]? = some (.inl (0, 12, 0, 0)) ∧ SHL[t + 6]? = some (.inl (0, 12, 0, 0)) ∧ SHL[t + 7]? = some (.inl (0, 8, 0, 0)) ∧ SHL[t + 8]? = some (.inr (1, skX1)) ∧ SHL[t + 9]? = some (.inl (0, 400, 0, 0)) ∧ SHL[t + 10]? = some (.inl (0, 4, 0, 0)) ∧ SHL[t + 11]? = some (.inl (0, 4, 0, 0)) ∧ SHL[t + 12]? = some (.inl (0, 9, 0, 0)) ∧ SHL[t + 13]? = some (.inl (0, 32, 0, 0))
theorem AtTown_0 {t : Nat} (h : AtTown t) : SHL[t]? = some (.inr (8, skX8)) := h.1
theorem AtTown_1 {t : Nat} (h : AtTown t) : SHL[t + 1]? = some (.inl (0, 16, 0, 0)) := h.2.1
theorem AtTown_2 {t : Nat} (h : AtTown t) : SHL[t + 2]? = some (.inl (0, 16, 0, 0)) := h.2.2.1
theorem AtTown_3 {t : Nat} (h : AtTown t) : SHL[t + 3]? = some (.inl (0, 12, 0, 0)) := h.2.2.2.1
theorem AtTown_4 {t : Nat} (h : AtTown t) : SHL[t + 4]? = some (.inl (0, 12, 0, 0)) := h.2.2.2.2.1
theorem AtTown_5 {t : Nat} (h : AtTown t) : SHL[t + 5]? = some (.inl (0, 12, 0, 0)) := h.2.2.2.2.2.1
theorem AtTown_6 {t : Nat} (h : AtTown t) : SHL[t + 6]? = some (.inl (0, 12, 0, 0)) := h.2.2.2.2.2.2.1
theorem AtTown_7 {t : Nat} (h : AtTown t) : SHL[t + 7]? = some (.inl (0, 8, 0, 0)) := h.2.2.2.2.2.2.2.1
theorem AtTown_8 {t : Nat} (h : AtTown t) : SHL[t + 8]? = some (.inr (1, skX1)) := h.2.2.2.2.2.2.2.2.1
theorem AtTown_9 {t : Nat} (h : AtTown t) : SHL[t + 9]? = some (.inl (0, 400, 0, 0)) := h.2.2.2.2.2.2.2.2.2.1
theorem AtTown_10 {t : Nat} (h : AtTown t) : SHL[t + 10]? = some (.inl (0, 4, 0, 0)) := h.2.2.2.2.2.2.2.2.2.2.1
theorem AtTown_11 {t : Nat} (h : AtTown t) : SHL[t + 11]? = some (.inl (0, 4, 0, 0)) := h.2.2.2.2.2.2.2.2.2.2.2.1
theorem AtTown_12 {t : Nat} (h : AtTown t) : SHL[t + 12]? = some (.inl (0, 9, 0, 0)) := h.2.2.2.2.2.2.2.2.2.2.2.2.1
theorem AtTown_13 {t : Nat} (h : AtTown t) : SHL[t + 13]? = some (.inl (0, 32, 0, 0)) := h.2.2.2.2.2.2.2.2.2.2.2.2.2
theorem AtTown_at10 : AtTown 10 := ⟨sh_10, sh_11, sh_12, sh_13, sh_14, sh_15, sh_16, sh_17, sh_18, sh_19, sh_20, sh_21, sh_22, sh_23⟩
theorem AtTown_at100 : AtTown 100 := ⟨sh_100, sh_101, sh_102, sh_103, sh_104, sh_105, sh_106, sh_107, sh_108, sh_109, sh_110, sh_111, sh_112, sh_113⟩
def AtLaws (t : Nat) : Prop := SHL[t]? = some (.inr (1, skX1)) ∧ SHL[t + 1]? = some (.inl (0, 400, 0, 0)) ∧ SHL[t + 2]? = some (.inl (0, 4, 0, 0)) ∧ SHL[t + 3]? = some (.inl (0, 4, 0, 0)) ∧ SHL[t + 4]? = some (.inl (0, 9, 0, 0)) ∧ SHL[t + 5]? = some (.inl (0, 32, 0, 0))
theorem AtLaws_0 {t : Nat} (h : AtLaws t) : SHL[t]? = some (.inr (1, skX1)) := h.1
theorem AtLaws_1 {t : Nat} (h : AtLaws t) : SHL[t + 1]? = some (.inl (0, 400, 0, 0)) := h.2.1
theorem AtLaws_2 {t : Nat} (h : AtLaws t) : SHL[t + 2]? = some (.inl (0, 4, 0, 0)) := h.2.2.1
theorem AtLaws_3 {t : Nat} (h : AtLaws t) : SHL[t + 3]? = some (.inl (0, 4, 0, 0)) := h.2.2.2.1
theorem AtLaws_4 {t : Nat} (h : AtLaws t) : SHL[t + 4]? = some (.inl (0, 9, 0, 0)) := h.2.2.2.2.1
theorem AtLaws_5 {t : Nat} (h : AtLaws t) : SHL[t + 5]? = some (.inl (0, 32, 0, 0)) := h.2.2.2.2.2
theorem AtLaws_at18 : AtLaws 18 := ⟨sh_18, sh_19, sh_20, sh_21, sh_22, sh_23⟩
theorem AtLaws_at108 : AtLaws 108 := ⟨sh_108, sh_109, sh_110, sh_111, sh_112, sh_113⟩
def AtState (t : Nat) : Prop := SHL[t]? = some (.inr (6, skX6)) ∧ SHL[t + 1]? = some (.inl (0, 16, 0, 0)) ∧ SHL[t + 2]? = some (.inl (0, 16, 0, 0)) ∧ SHL[t + 3]? = some (.inl (0, 8, 0, 0)) ∧ SHL[t + 4]? = some (.inl (0, 40, 0, 0)) ∧ SHL[t + 5]? = some (.inl (0, 40, 0, 0)) ∧ SHL[t + 6]? = some (.inl (0, 40, 0, 0)) ∧ SHL[t + 7]? = some (.inr (2, skX2)) ∧ SHL[t + 8]? = some (.inl (0, 60, 0, 0)) ∧ SHL[t + 9]? = some (.inl (0, 60, 0, 0)) ∧ SHL[t + 10]? = some (.inl (0, 60, 0, 0)) ∧ SHL[t + 11]? = some (.inl (0, 60, 0, 0)) ∧ SHL[t + 12]? = some (.inl (2, 60, 0, 0)) ∧ SHL[t + 13]? = some (.inl (0, 16, 0, 0))
theorem AtState_0 {t : Nat} (h : AtState t) : SHL[t]? = some (.inr (6, skX6)) := h.1
theorem AtState_1 {t : Nat} (h : AtState t) : SHL[t + 1]? = some (.inl (0, 16, 0, 0)) := h.2.1
theorem AtState_2 {t : Nat} (h : AtState t) : SHL[t + 2]? = some (.inl (0, 16, 0, 0)) := h.2.2.1
theorem AtState_3 {t : Nat} (h : AtState t) : SHL[t + 3]? = some (.inl (0, 8, 0, 0)) := h.2.2.2.1
theorem AtState_4 {t : Nat} (h : AtState t) : SHL[t + 4]? = some (.inl (0, 40, 0, 0)) := h.2.2.2.2.1
theorem AtState_5 {t : Nat} (h : AtState t) : SHL[t + 5]? = some (.inl (0, 40, 0, 0)) := h.2.2.2.2.2.1
theorem AtState_6 {t : Nat} (h : AtState t) : SHL[t + 6]? = some (.inl (0, 40, 0, 0)) := h.2.2.2.2.2.2.1
theorem AtState_7 {t : Nat} (h : AtState t) : SHL[t + 7]? = some (.inr (2, skX2)) := h.2.2.2.2.2.2.2.1
theorem AtState_8 {t : Nat} (h : AtState t) : SHL[t + 8]? = some (.inl (0, 60, 0, 0)) := h.2.2.2.2.2.2.2.2.1
theorem AtState_9 {t : Nat} (h : AtState t) : SHL[t + 9]? = some (.inl (0, 60, 0, 0)) := h.2.2.2.2.2.2.2.2.2.1
theorem AtState_10 {t : Nat} (h : AtState t) : SHL[t + 10]? = some (.inl (0, 60, 0, 0)) := h.2.2.2.2.2.2.2.2.2.2.1
theorem AtState_11 {t : Nat} (h : AtState t) : SHL[t + 11]? = some (.inl (0, 60, 0, 0)) := h.2.2.2.2.2.2.2.2.2.2.2.1
theorem AtState_12 {t : Nat} (h : AtState t) : SHL[t + 12]? = some (.inl (2, 60, 0, 0)) := h.2.2.2.2.2.2.2.2.2.2.2.2.1
theorem AtState_13 {t : Nat} (h : AtState t) : SHL[t + 13]? = some (.inl (0, 16, 0, 0)) := h.2.2.2.2.2.2.2.2.2.2.2.2.2
theorem AtState_at24 : AtState 24 := ⟨sh_24, sh_25, sh_26, sh_27, sh_28, sh_29, sh_30, sh_31, sh_32, sh_33, sh_34, sh_35, sh_36, sh_37⟩
theorem AtState_at114 : AtState 114 := ⟨sh_114, sh_115, sh_116, sh_117, sh_118, sh_119, sh_120, sh_121, sh_122, sh_123, sh_124, sh_125, sh_126, sh_127⟩
theorem AtState_at128 : AtState 128 := ⟨sh_128, sh_129, sh_130, sh_131, sh_132, sh_133, sh_134, sh_135, sh_136, sh_137, sh_138, sh_139, sh_140, sh_141⟩
theorem AtState_at142 : AtState 142 := ⟨sh_142, sh_143, sh_144, sh_145, sh_146, sh_147, sh_148, sh_149, sh_150, sh_151, sh_152, sh_153, sh_154, sh_155⟩
def AtLogs (t : Nat) : Prop := SHL[t]? = some (.inr (2, skX2)) ∧ SHL[t + 1]? = some (.inl (0, 60, 0, 0)) ∧ SHL[t + 2]? = some (.inl (0, 60, 0, 0)) ∧ SHL[t + 3]? = some (.inl (0, 60, 0, 0)) ∧ SHL[t + 4]? = some (.inl (0, 60, 0, 0)) ∧ SHL[t + 5]? = some (.inl (2, 60, 0, 0)) ∧ SHL[t + 6]? = some (.inl (0, 16, 0, 0))
theorem AtLogs_0 {t : Nat} (h : AtLogs t) : SHL[t]? = some (.inr (2, skX2)) := h.1
theorem AtLogs_1 {t : Nat} (h : AtLogs t) : SHL[t + 1]? = some (.inl (0, 60, 0, 0)) := h.2.1
theorem AtLogs_2 {t : Nat} (h : AtLogs t) : SHL[t + 2]? = some (.inl (0, 60, 0, 0)) := h.2.2.1
theorem AtLogs_3 {t : Nat} (h : AtLogs t) : SHL[t + 3]? = some (.inl (0, 60, 0, 0)) := h.2.2.2.1
theorem AtLogs_4 {t : Nat} (h : AtLogs t) : SHL[t + 4]? = some (.inl (0, 60, 0, 0)) := h.2.2.2.2.1
theorem AtLogs_5 {t : Nat} (h : AtLogs t) : SHL[t + 5]? = some (.inl (2, 60, 0, 0)) := h.2.2.2.2.2.1
theorem AtLogs_6 {t : Nat} (h : AtLogs t) : SHL[t + 6]? = some (.inl (0, 16, 0, 0)) := h.2.2.2.2.2.2
theorem AtLogs_at31 : AtLogs 31 := ⟨sh_31, sh_32, sh_33, sh_34, sh_35, sh_36, sh_37⟩
theorem AtLogs_at121 : AtLogs 121 := ⟨sh_121, sh_122, sh_123, sh_124, sh_125, sh_126, sh_127⟩
theorem AtLogs_at135 : AtLogs 135 := ⟨sh_135, sh_136, sh_137, sh_138, sh_139, sh_140, sh_141⟩
theorem AtLogs_at149 : AtLogs 149 := ⟨sh_149, sh_150, sh_151, sh_152, sh_153, sh_154, sh_155⟩
theorem AtTown.laws {t : Nat} (h : AtTown t) : AtLaws (t + 8) := ⟨AtTown_8 h, AtTown_9 h, AtTown_10 h, AtTown_11 h, AtTown_12 h, AtTown_13 h⟩
theorem AtState.logs {t : Nat} (h : AtState t) : AtLogs (t + 7) := ⟨AtState_7 h, AtState_8 h, AtState_9 h, AtState_10 h, AtState_11 h, AtState_12 h, AtState_13 h⟩
