/-! every method is as its table says: by the kernel -/
noncomputable def mBB (k : Nat) : Bool := match mG k with | some M => mB k M | none => true
set_option maxRecDepth 1000000 in
theorem mb_0 : mBB 0 = true := by decide +kernel
set_option maxRecDepth 1000000 in
theorem mb_1 : mBB 1 = true := by decide +kernel
set_option maxRecDepth 1000000 in
theorem mb_2 : mBB 2 = true := by decide +kernel
set_option maxRecDepth 1000000 in
theorem mb_3 : mBB 3 = true := by decide +kernel
set_option maxRecDepth 1000000 in
theorem mb_4 : mBB 4 = true := by decide +kernel
set_option maxRecDepth 1000000 in
theorem mb_5 : mBB 5 = true := by decide +kernel
set_option maxRecDepth 1000000 in
theorem mb_6 : mBB 6 = true := by decide +kernel
set_option maxRecDepth 1000000 in
theorem mb_7 : mBB 7 = true := by decide +kernel
set_option maxRecDepth 1000000 in
theorem mb_8 : mBB 8 = true := by decide +kernel
set_option maxRecDepth 1000000 in
theorem mb_9 : mBB 9 = true := by decide +kernel
set_option maxRecDepth 1000000 in
theorem mb_10 : mBB 10 = true := by decide +kernel
set_option maxRecDepth 1000000 in
theorem mb_11 : mBB 11 = true := by decide +kernel
set_option maxRecDepth 1000000 in
theorem mb_12 : mBB 12 = true := by decide +kernel
set_option maxRecDepth 1000000 in
theorem mb_13 : mBB 13 = true := by decide +kernel
set_option maxRecDepth 1000000 in
theorem mb_14 : mBB 14 = true := by decide +kernel
set_option maxRecDepth 1000000 in
theorem mb_15 : mBB 15 = true := by decide +kernel
set_option maxRecDepth 1000000 in
theorem mb_16 : mBB 16 = true := by decide +kernel
set_option maxRecDepth 1000000 in
theorem mb_17 : mBB 17 = true := by decide +kernel
set_option maxRecDepth 1000000 in
theorem mb_18 : mBB 18 = true := by decide +kernel
set_option maxRecDepth 1000000 in
theorem mb_19 : mBB 19 = true := by decide +kernel
set_option maxRecDepth 1000000 in
theorem mb_20 : mBB 20 = true := by decide +kernel
set_option maxRecDepth 1000000 in
theorem mb_21 : mBB 21 = true := by decide +kernel
set_option maxRecDepth 1000000 in
theorem mb_22 : mBB 22 = true := by decide +kernel
set_option maxRecDepth 1000000 in
theorem mb_23 : mBB 23 = true := by decide +kernel
set_option maxRecDepth 1000000 in
theorem mb_24 : mBB 24 = true := by decide +kernel
set_option maxRecDepth 1000000 in
theorem mb_25 : mBB 25 = true := by decide +kernel
set_option maxRecDepth 1000000 in
theorem mb_26 : mBB 26 = true := by decide +kernel
set_option maxRecDepth 1000000 in
theorem mb_27 : mBB 27 = true := by decide +kernel
set_option maxRecDepth 1000000 in
theorem mb_28 : mBB 28 = true := by decide +kernel
set_option maxRecDepth 1000000 in
theorem mb_29 : mBB 29 = true := by decide +kernel
set_option maxRecDepth 1000000 in
theorem mb_30 : mBB 30 = true := by decide +kernel
set_option maxRecDepth 1000000 in
theorem mb_31 : mBB 31 = true := by decide +kernel
set_option maxRecDepth 1000000 in
theorem mb_32 : mBB 32 = true := by decide +kernel
set_option maxRecDepth 1000000 in
theorem mb_33 : mBB 33 = true := by decide +kernel
set_option maxRecDepth 1000000 in
theorem mb_34 : mBB 34 = true := by decide +kernel
set_option maxRecDepth 1000000 in
theorem mb_35 : mBB 35 = true := by decide +kernel
set_option maxRecDepth 1000000 in
theorem mb_36 : mBB 36 = true := by decide +kernel
set_option maxRecDepth 1000000 in
theorem mb_37 : mBB 37 = true := by decide +kernel
set_option maxRecDepth 1000000 in
theorem mb_38 : mBB 38 = true := by decide +kernel
set_option maxRecDepth 1000000 in
theorem mb_39 : mBB 39 = true := by decide +kernel
theorem mbc_0 : ∀ j, j < 40 → mBB (0 + j) = true
  | 0, _ => mb_0
  | 1, _ => mb_1
  | 2, _ => mb_2
  | 3, _ => mb_3
  | 4, _ => mb_4
  | 5, _ => mb_5
  | 6, _ => mb_6
  | 7, _ => mb_7
  | 8, _ => mb_8
  | 9, _ => mb_9
  | 10, _ => mb_10
  | 11, _ => mb_11
  | 12, _ => mb_12
  | 13, _ => mb_13
  | 14, _ => mb_14
  | 15, _ => mb_15
  | 16, _ => mb_16
  | 17, _ => mb_17
  | 18, _ => mb_18
  | 19, _ => mb_19
  | 20, _ => mb_20
  | 21, _ => mb_21
  | 22, _ => mb_22
  | 23, _ => mb_23
  | 24, _ => mb_24
  | 25, _ => mb_25
  | 26, _ => mb_26
  | 27, _ => mb_27
  | 28, _ => mb_28
  | 29, _ => mb_29
  | 30, _ => mb_30
  | 31, _ => mb_31
  | 32, _ => mb_32
  | 33, _ => mb_33
  | 34, _ => mb_34
  | 35, _ => mb_35
  | 36, _ => mb_36
  | 37, _ => mb_37
  | 38, _ => mb_38
  | 39, _ => mb_39
  | j + 40, h => absurd h (by omega)
set_option maxRecDepth 1000000 in
theorem mb_40 : mBB 40 = true := by decide +kernel
set_option maxRecDepth 1000000 in
theorem mb_41 : mBB 41 = true := by decide +kernel
set_option maxRecDepth 1000000 in
theorem mb_42 : mBB 42 = true := by decide +kernel
set_option maxRecDepth 1000000 in
theorem mb_43 : mBB 43 = true := by decide +kernel
set_option maxRecDepth 1000000 in
theorem mb_44 : mBB 44 = true := by decide +kernel
set_option maxRecDepth 1000000 in
theorem mb_45 : mBB 45 = true := by decide +kernel
set_option maxRecDepth 1000000 in
theorem mb_46 : mBB 46 = true := by decide +kernel
set_option maxRecDepth 1000000 in
theorem mb_47 : mBB 47 = true := by decide +kernel
set_option maxRecDepth 1000000 in
theorem mb_48 : mBB 48 = true := by decide +kernel
set_option maxRecDepth 1000000 in
theorem mb_49 : mBB 49 = true := by decide +kernel
set_option maxRecDepth 1000000 in
theorem mb_50 : mBB 50 = true := by decide +kernel
set_option maxRecDepth 1000000 in
theorem mb_51 : mBB 51 = true := by decide +kernel
set_option maxRecDepth 1000000 in
theorem mb_52 : mBB 52 = true := by decide +kernel
set_option maxRecDepth 1000000 in
theorem mb_53 : mBB 53 = true := by decide +kernel
set_option maxRecDepth 1000000 in
theorem mb_54 : mBB 54 = true := by decide +kernel
set_option maxRecDepth 1000000 in
theorem mb_55 : mBB 55 = true := by decide +kernel
set_option maxRecDepth 1000000 in
theorem mb_56 : mBB 56 = true := by decide +kernel
set_option maxRecDepth 1000000 in
theorem mb_57 : mBB 57 = true := by decide +kernel
set_option maxRecDepth 1000000 in
theorem mb_58 : mBB 58 = true := by decide +kernel
set_option maxRecDepth 1000000 in
theorem mb_59 : mBB 59 = true := by decide +kernel
set_option maxRecDepth 1000000 in
theorem mb_60 : mBB 60 = true := by decide +kernel
set_option maxRecDepth 1000000 in
theorem mb_61 : mBB 61 = true := by decide +kernel
set_option maxRecDepth 1000000 in
theorem mb_62 : mBB 62 = true := by decide +kernel
set_option maxRecDepth 1000000 in
theorem mb_63 : mBB 63 = true := by decide +kernel
set_option maxRecDepth 1000000 in
theorem mb_64 : mBB 64 = true := by decide +kernel
set_option maxRecDepth 1000000 in
theorem mb_65 : mBB 65 = true := by decide +kernel
set_option maxRecDepth 1000000 in
theorem mb_66 : mBB 66 = true := by decide +kernel
set_option maxRecDepth 1000000 in
theorem mb_67 : mBB 67 = true := by decide +kernel
set_option maxRecDepth 1000000 in
theorem mb_68 : mBB 68 = true := by decide +kernel
set_option maxRecDepth 1000000 in
theorem mb_69 : mBB 69 = true := by decide +kernel
set_option maxRecDepth 1000000 in
theorem mb_70 : mBB 70 = true := by decide +kernel
set_option maxRecDepth 1000000 in
theorem mb_71 : mBB 71 = true := by decide +kernel
set_option maxRecDepth 1000000 in
theorem mb_72 : mBB 72 = true := by decide +kernel
set_option maxRecDepth 1000000 in
theorem mb_73 : mBB 73 = true := by decide +kernel
set_option maxRecDepth 1000000 in
theorem mb_74 : mBB 74 = true := by decide +kernel
set_option maxRecDepth 1000000 in
theorem mb_75 : mBB 75 = true := by decide +kernel
set_option maxRecDepth 1000000 in
theorem mb_76 : mBB 76 = true := by decide +kernel
set_option maxRecDepth 1000000 in
theorem mb_77 : mBB 77 = true := by decide +kernel
set_option maxRecDepth 1000000 in
theorem mb_78 : mBB 78 = true := by decide +kernel
set_option maxRecDepth 1000000 in
theorem mb_79 : mBB 79 = true := by decide +kernel
theorem mbc_1 : ∀ j, j < 40 → mBB (40 + j) = true
  | 0, _ => mb_40
  | 1, _ => mb_41
  | 2, _ => mb_42
  | 3, _ => mb_43
  | 4, _ => mb_44
  | 5, _ => mb_45
  | 6, _ => mb_46
  | 7, _ => mb_47
  | 8, _ => mb_48
  | 9, _ => mb_49
  | 10, _ => mb_50
  | 11, _ => mb_51
  | 12, _ => mb_52
  | 13, _ => mb_53
  | 14, _ => mb_54
  | 15, _ => mb_55
  | 16, _ => mb_56
  | 17, _ => mb_57
  | 18, _ => mb_58
  | 19, _ => mb_59
  | 20, _ => mb_60
  | 21, _ => mb_61
  | 22, _ => mb_62
  | 23, _ => mb_63
  | 24, _ => mb_64
  | 25, _ => mb_65
  | 26, _ => mb_66
  | 27, _ => mb_67
  | 28, _ => mb_68
  | 29, _ => mb_69
  | 30, _ => mb_70
  | 31, _ => mb_71
  | 32, _ => mb_72
  | 33, _ => mb_73
  | 34, _ => mb_74
  | 35, _ => mb_75
  | 36, _ => mb_76
  | 37, _ => mb_77
  | 38, _ => mb_78
  | 39, _ => mb_79
  | j + 40, h => absurd h (by omega)
set_option maxRecDepth 1000000 in
theorem mb_80 : mBB 80 = true := by decide +kernel
set_option maxRecDepth 1000000 in
theorem mb_81 : mBB 81 = true := by decide +kernel
set_option maxRecDepth 1000000 in
theorem mb_82 : mBB 82 = true := by decide +kernel
set_option maxRecDepth 1000000 in
theorem mb_83 : mBB 83 = true := by decide +kernel
set_option maxRecDepth 1000000 in
theorem mb_84 : mBB 84 = true := by decide +kernel
set_option maxRecDepth 1000000 in
theorem mb_85 : mBB 85 = true := by decide +kernel
set_option maxRecDepth 1000000 in
theorem mb_86 : mBB 86 = true := by decide +kernel
set_option maxRecDepth 1000000 in
theorem mb_87 : mBB 87 = true := by decide +kernel
set_option maxRecDepth 1000000 in
theorem mb_88 : mBB 88 = true := by decide +kernel
set_option maxRecDepth 1000000 in
theorem mb_89 : mBB 89 = true := by decide +kernel
set_option maxRecDepth 1000000 in
theorem mb_90 : mBB 90 = true := by decide +kernel
set_option maxRecDepth 1000000 in
theorem mb_91 : mBB 91 = true := by decide +kernel
set_option maxRecDepth 1000000 in
theorem mb_92 : mBB 92 = true := by decide +kernel
set_option maxRecDepth 1000000 in
theorem mb_93 : mBB 93 = true := by decide +kernel
set_option maxRecDepth 1000000 in
theorem mb_94 : mBB 94 = true := by decide +kernel
set_option maxRecDepth 1000000 in
theorem mb_95 : mBB 95 = true := by decide +kernel
set_option maxRecDepth 1000000 in
theorem mb_96 : mBB 96 = true := by decide +kernel
set_option maxRecDepth 1000000 in
theorem mb_97 : mBB 97 = true := by decide +kernel
set_option maxRecDepth 1000000 in
theorem mb_98 : mBB 98 = true := by decide +kernel
set_option maxRecDepth 1000000 in
theorem mb_99 : mBB 99 = true := by decide +kernel
set_option maxRecDepth 1000000 in
theorem mb_100 : mBB 100 = true := by decide +kernel
set_option maxRecDepth 1000000 in
theorem mb_101 : mBB 101 = true := by decide +kernel
set_option maxRecDepth 1000000 in
theorem mb_102 : mBB 102 = true := by decide +kernel
set_option maxRecDepth 1000000 in
theorem mb_103 : mBB 103 = true := by decide +kernel
set_option maxRecDepth 1000000 in
theorem mb_104 : mBB 104 = true := by decide +kernel
set_option maxRecDepth 1000000 in
theorem mb_105 : mBB 105 = true := by decide +kernel
set_option maxRecDepth 1000000 in
theorem mb_106 : mBB 106 = true := by decide +kernel
set_option maxRecDepth 1000000 in
theorem mb_107 : mBB 107 = true := by decide +kernel
set_option maxRecDepth 1000000 in
theorem mb_108 : mBB 108 = true := by decide +kernel
set_option maxRecDepth 1000000 in
theorem mb_109 : mBB 109 = true := by decide +kernel
set_option maxRecDepth 1000000 in
theorem mb_110 : mBB 110 = true := by decide +kernel
set_option maxRecDepth 1000000 in
theorem mb_111 : mBB 111 = true := by decide +kernel
set_option maxRecDepth 1000000 in
theorem mb_112 : mBB 112 = true := by decide +kernel
set_option maxRecDepth 1000000 in
theorem mb_113 : mBB 113 = true := by decide +kernel
set_option maxRecDepth 1000000 in
theorem mb_114 : mBB 114 = true := by decide +kernel
set_option maxRecDepth 1000000 in
theorem mb_115 : mBB 115 = true := by decide +kernel
set_option maxRecDepth 1000000 in
theorem mb_116 : mBB 116 = true := by decide +kernel
set_option maxRecDepth 1000000 in
theorem mb_117 : mBB 117 = true := by decide +kernel
set_option maxRecDepth 1000000 in
theorem mb_118 : mBB 118 = true := by decide +kernel
set_option maxRecDepth 1000000 in
theorem mb_119 : mBB 119 = true := by decide +kernel
theorem mbc_2 : ∀ j, j < 40 → mBB (80 + j) = true
  | 0, _ => mb_80
  | 1, _ => mb_81
  | 2, _ => mb_82
  | 3, _ => mb_83
  | 4, _ => mb_84
  | 5, _ => mb_85
  | 6, _ => mb_86
  | 7, _ => mb_87
  | 8, _ => mb_88
  | 9, _ => mb_89
  | 10, _ => mb_90
  | 11, _ => mb_91
  | 12, _ => mb_92
  | 13, _ => mb_93
  | 14, _ => mb_94
  | 15, _ => mb_95
  | 16, _ => mb_96
  | 17, _ => mb_97
  | 18, _ => mb_98
  | 19, _ => mb_99
  | 20, _ => mb_100
  | 21, _ => mb_101
  | 22, _ => mb_102
  | 23, _ => mb_103
  | 24, _ => mb_104
  | 25, _ => mb_105
  | 26, _ => mb_106
  | 27, _ => mb_107
  | 28, _ => mb_108
  | 29, _ => mb_109
  | 30, _ => mb_110
  | 31, _ => mb_111
  | 32, _ => mb_112
  | 33, _ => mb_113
  | 34, _ => mb_114
  | 35, _ => mb_115
  | 36, _ => mb_116
  | 37, _ => mb_117
  | 38, _ => mb_118
  | 39, _ => mb_119
  | j + 40, h => absurd h (by omega)
