set_option maxRecDepth 100000 in
theorem mr_I_0 : ∀ j, j < 64 → mr0 179 190 179 0 j = mdR (ltR (fun _ _ => none)) 0 j := by decide +kernel
set_option maxRecDepth 100000 in
theorem mr_I_1 : ∀ j, j < 64 → mr0 179 190 179 1 j = mdR (ltR (fun _ _ => none)) 1 j := by decide +kernel
set_option maxRecDepth 100000 in
theorem mr_I_2 : ∀ j, j < 64 → mr0 179 190 179 2 j = mdR (ltR (fun _ _ => none)) 2 j := by decide +kernel
set_option maxRecDepth 100000 in
theorem mr_I_3 : ∀ j, j < 64 → mr0 179 190 179 3 j = mdR (ltR (fun _ _ => none)) 3 j := by decide +kernel
set_option maxRecDepth 100000 in
theorem mr_I_4 : ∀ j, j < 64 → mr0 179 190 179 4 j = mdR (ltR (fun _ _ => none)) 4 j := by decide +kernel
set_option maxRecDepth 100000 in
theorem mr_I_5 : ∀ j, j < 64 → mr0 179 190 179 5 j = mdR (ltR (fun _ _ => none)) 5 j := by decide +kernel
set_option maxRecDepth 100000 in
theorem mr_I_6 : ∀ j, j < 64 → mr0 179 190 179 6 j = mdR (ltR (fun _ _ => none)) 6 j := by decide +kernel
set_option maxRecDepth 100000 in
theorem mr_I_7 : ∀ j, j < 64 → mr0 179 190 179 7 j = mdR (ltR (fun _ _ => none)) 7 j := by decide +kernel
set_option maxRecDepth 100000 in
theorem mr_I_8 : ∀ j, j < 64 → mr0 179 190 179 8 j = mdR (ltR (fun _ _ => none)) 8 j := by decide +kernel
set_option maxRecDepth 100000 in
theorem mr_I_9 : ∀ j, j < 64 → mr0 179 190 179 9 j = mdR (ltR (fun _ _ => none)) 9 j := by decide +kernel
set_option maxRecDepth 100000 in
theorem mr_I_10 : ∀ j, j < 64 → mr0 179 190 179 10 j = mdR (ltR (fun _ _ => none)) 10 j := by decide +kernel
set_option maxRecDepth 100000 in
theorem mr_I_11 : ∀ j, j < 64 → mr0 179 190 179 11 j = mdR (ltR (fun _ _ => none)) 11 j := by decide +kernel
set_option maxRecDepth 100000 in
theorem mr_I_12 : ∀ j, j < 64 → mr0 179 190 179 12 j = mdR (ltR (fun _ _ => none)) 12 j := by decide +kernel
set_option maxRecDepth 100000 in
theorem mr_I_13 : ∀ j, j < 64 → mr0 179 190 179 13 j = mdR (ltR (fun _ _ => none)) 13 j := by decide +kernel
set_option maxRecDepth 100000 in
theorem mr_I_14 : ∀ j, j < 64 → mr0 179 190 179 14 j = mdR (ltR (fun _ _ => none)) 14 j := by decide +kernel
set_option maxRecDepth 100000 in
theorem mr_I_15 : ∀ j, j < 64 → mr0 179 190 179 15 j = mdR (ltR (fun _ _ => none)) 15 j := by decide +kernel
set_option maxRecDepth 100000 in
theorem mr_I_16 : ∀ j, j < 64 → mr0 179 190 179 16 j = mdR (ltR (fun _ _ => none)) 16 j := by decide +kernel
set_option maxRecDepth 100000 in
theorem mr_I_17 : ∀ j, j < 64 → mr0 179 190 179 17 j = mdR (ltR (fun _ _ => none)) 17 j := by decide +kernel
set_option maxRecDepth 100000 in
theorem mr_I_18 : ∀ j, j < 64 → mr0 179 190 179 18 j = mdR (ltR (fun _ _ => none)) 18 j := by decide +kernel
set_option maxRecDepth 100000 in
theorem mr_I_19 : ∀ j, j < 64 → mr0 179 190 179 19 j = mdR (ltR (fun _ _ => none)) 19 j := by decide +kernel
set_option maxRecDepth 100000 in
theorem mr_I_20 : ∀ j, j < 64 → mr0 179 190 179 20 j = mdR (ltR (fun _ _ => none)) 20 j := by decide +kernel
set_option maxRecDepth 100000 in
theorem mr_I_21 : ∀ j, j < 64 → mr0 179 190 179 21 j = mdR (ltR (fun _ _ => none)) 21 j := by decide +kernel
set_option maxRecDepth 100000 in
theorem mr_I_22 : ∀ j, j < 64 → mr0 179 190 179 22 j = mdR (ltR (fun _ _ => none)) 22 j := by decide +kernel
set_option maxRecDepth 100000 in
theorem mr_I_23 : ∀ j, j < 64 → mr0 179 190 179 23 j = mdR (ltR (fun _ _ => none)) 23 j := by decide +kernel
set_option maxRecDepth 100000 in
theorem mr_I_24 : ∀ j, j < 64 → mr0 179 190 179 24 j = mdR (ltR (fun _ _ => none)) 24 j := by decide +kernel
set_option maxRecDepth 100000 in
theorem mr_I_25 : ∀ j, j < 64 → mr0 179 190 179 25 j = mdR (ltR (fun _ _ => none)) 25 j := by decide +kernel
set_option maxRecDepth 100000 in
theorem mr_I_26 : ∀ j, j < 64 → mr0 179 190 179 26 j = mdR (ltR (fun _ _ => none)) 26 j := by decide +kernel
set_option maxRecDepth 100000 in
theorem mr_I_27 : ∀ j, j < 64 → mr0 179 190 179 27 j = mdR (ltR (fun _ _ => none)) 27 j := by decide +kernel
set_option maxRecDepth 100000 in
theorem mr_I_28 : ∀ j, j < 64 → mr0 179 190 179 28 j = mdR (ltR (fun _ _ => none)) 28 j := by decide +kernel
set_option maxRecDepth 100000 in
theorem mr_I_29 : ∀ j, j < 64 → mr0 179 190 179 29 j = mdR (ltR (fun _ _ => none)) 29 j := by decide +kernel
set_option maxRecDepth 100000 in
theorem mr_I_30 : ∀ j, j < 64 → mr0 179 190 179 30 j = mdR (ltR (fun _ _ => none)) 30 j := by decide +kernel
set_option maxRecDepth 100000 in
theorem mr_I_31 : ∀ j, j < 64 → mr0 179 190 179 31 j = mdR (ltR (fun _ _ => none)) 31 j := by decide +kernel
set_option maxRecDepth 100000 in
theorem mr_I_32 : ∀ j, j < 64 → mr0 179 190 179 32 j = mdR (ltR (fun _ _ => none)) 32 j := by decide +kernel
set_option maxRecDepth 100000 in
theorem mr_I_33 : ∀ j, j < 64 → mr0 179 190 179 33 j = mdR (ltR (fun _ _ => none)) 33 j := by decide +kernel
set_option maxRecDepth 100000 in
theorem mr_I_34 : ∀ j, j < 64 → mr0 179 190 179 34 j = mdR (ltR (fun _ _ => none)) 34 j := by decide +kernel
set_option maxRecDepth 100000 in
theorem mr_I_35 : ∀ j, j < 64 → mr0 179 190 179 35 j = mdR (ltR (fun _ _ => none)) 35 j := by decide +kernel
set_option maxRecDepth 100000 in
theorem mr_I_36 : ∀ j, j < 64 → mr0 179 190 179 36 j = mdR (ltR (fun _ _ => none)) 36 j := by decide +kernel
set_option maxRecDepth 100000 in
theorem mr_I_37 : ∀ j, j < 64 → mr0 179 190 179 37 j = mdR (ltR (fun _ _ => none)) 37 j := by decide +kernel
set_option maxRecDepth 100000 in
theorem mr_I_38 : ∀ j, j < 64 → mr0 179 190 179 38 j = mdR (ltR (fun _ _ => none)) 38 j := by decide +kernel
set_option maxRecDepth 100000 in
theorem mr_I_39 : ∀ j, j < 64 → mr0 179 190 179 39 j = mdR (ltR (fun _ _ => none)) 39 j := by decide +kernel
set_option maxRecDepth 100000 in
theorem mr_I_40 : ∀ j, j < 64 → mr0 179 190 179 40 j = mdR (ltR (fun _ _ => none)) 40 j := by decide +kernel
set_option maxRecDepth 100000 in
theorem mr_I_41 : ∀ j, j < 64 → mr0 179 190 179 41 j = mdR (ltR (fun _ _ => none)) 41 j := by decide +kernel
set_option maxRecDepth 100000 in
theorem mr_I_42 : ∀ j, j < 64 → mr0 179 190 179 42 j = mdR (ltR (fun _ _ => none)) 42 j := by decide +kernel
set_option maxRecDepth 100000 in
theorem mr_I_43 : ∀ j, j < 64 → mr0 179 190 179 43 j = mdR (ltR (fun _ _ => none)) 43 j := by decide +kernel
set_option maxRecDepth 100000 in
theorem mr_I_44 : ∀ j, j < 64 → mr0 179 190 179 44 j = mdR (ltR (fun _ _ => none)) 44 j := by decide +kernel
set_option maxRecDepth 100000 in
theorem mr_I_45 : ∀ j, j < 64 → mr0 179 190 179 45 j = mdR (ltR (fun _ _ => none)) 45 j := by decide +kernel
set_option maxRecDepth 100000 in
theorem mr_I_46 : ∀ j, j < 64 → mr0 179 190 179 46 j = mdR (ltR (fun _ _ => none)) 46 j := by decide +kernel
set_option maxRecDepth 100000 in
theorem mr_I_47 : ∀ j, j < 64 → mr0 179 190 179 47 j = mdR (ltR (fun _ _ => none)) 47 j := by decide +kernel
set_option maxRecDepth 100000 in
theorem mr_I_48 : ∀ j, j < 64 → mr0 179 190 179 48 j = mdR (ltR (fun _ _ => none)) 48 j := by decide +kernel
set_option maxRecDepth 100000 in
theorem mr_I_49 : ∀ j, j < 64 → mr0 179 190 179 49 j = mdR (ltR (fun _ _ => none)) 49 j := by decide +kernel
set_option maxRecDepth 100000 in
theorem mr_I_50 : ∀ j, j < 64 → mr0 179 190 179 50 j = mdR (ltR (fun _ _ => none)) 50 j := by decide +kernel
set_option maxRecDepth 100000 in
theorem mr_I_51 : ∀ j, j < 64 → mr0 179 190 179 51 j = mdR (ltR (fun _ _ => none)) 51 j := by decide +kernel
set_option maxRecDepth 100000 in
theorem mr_I_52 : ∀ j, j < 64 → mr0 179 190 179 52 j = mdR (ltR (fun _ _ => none)) 52 j := by decide +kernel
set_option maxRecDepth 100000 in
theorem mr_I_53 : ∀ j, j < 64 → mr0 179 190 179 53 j = mdR (ltR (fun _ _ => none)) 53 j := by decide +kernel
set_option maxRecDepth 100000 in
theorem mr_I_54 : ∀ j, j < 64 → mr0 179 190 179 54 j = mdR (ltR (fun _ _ => none)) 54 j := by decide +kernel
set_option maxRecDepth 100000 in
theorem mr_I_55 : ∀ j, j < 64 → mr0 179 190 179 55 j = mdR (ltR (fun _ _ => none)) 55 j := by decide +kernel
set_option maxRecDepth 100000 in
theorem mr_I_56 : ∀ j, j < 64 → mr0 179 190 179 56 j = mdR (ltR (fun _ _ => none)) 56 j := by decide +kernel
set_option maxRecDepth 100000 in
theorem mr_I_57 : ∀ j, j < 64 → mr0 179 190 179 57 j = mdR (ltR (fun _ _ => none)) 57 j := by decide +kernel
set_option maxRecDepth 100000 in
theorem mr_I_58 : ∀ j, j < 64 → mr0 179 190 179 58 j = mdR (ltR (fun _ _ => none)) 58 j := by decide +kernel
set_option maxRecDepth 100000 in
theorem mr_I_59 : ∀ j, j < 64 → mr0 179 190 179 59 j = mdR (ltR (fun _ _ => none)) 59 j := by decide +kernel
set_option maxRecDepth 100000 in
theorem mr_I_60 : ∀ j, j < 64 → mr0 179 190 179 60 j = mdR (ltR (fun _ _ => none)) 60 j := by decide +kernel
set_option maxRecDepth 100000 in
theorem mr_I_61 : ∀ j, j < 64 → mr0 179 190 179 61 j = mdR (ltR (fun _ _ => none)) 61 j := by decide +kernel
set_option maxRecDepth 100000 in
theorem mr_I_62 : ∀ j, j < 64 → mr0 179 190 179 62 j = mdR (ltR (fun _ _ => none)) 62 j := by decide +kernel
set_option maxRecDepth 100000 in
theorem mr_I_63 : ∀ j, j < 64 → mr0 179 190 179 63 j = mdR (ltR (fun _ _ => none)) 63 j := by decide +kernel
set_option maxRecDepth 100000 in
theorem mr_I_64 : ∀ j, j < 64 → mr0 179 190 179 64 j = mdR (ltR (fun _ _ => none)) 64 j := by decide +kernel
set_option maxRecDepth 100000 in
theorem mr_I_65 : ∀ j, j < 64 → mr0 179 190 179 65 j = mdR (ltR (fun _ _ => none)) 65 j := by decide +kernel
set_option maxRecDepth 100000 in
theorem mr_I_66 : ∀ j, j < 64 → mr0 179 190 179 66 j = mdR (ltR (fun _ _ => none)) 66 j := by decide +kernel
set_option maxRecDepth 100000 in
theorem mr_I_67 : ∀ j, j < 64 → mr0 179 190 179 67 j = mdR (ltR (fun _ _ => none)) 67 j := by decide +kernel
set_option maxRecDepth 100000 in
theorem mr_I_68 : ∀ j, j < 64 → mr0 179 190 179 68 j = mdR (ltR (fun _ _ => none)) 68 j := by decide +kernel
set_option maxRecDepth 100000 in
theorem mr_I_69 : ∀ j, j < 64 → mr0 179 190 179 69 j = mdR (ltR (fun _ _ => none)) 69 j := by decide +kernel
set_option maxRecDepth 100000 in
theorem mr_I_70 : ∀ j, j < 64 → mr0 179 190 179 70 j = mdR (ltR (fun _ _ => none)) 70 j := by decide +kernel
set_option maxRecDepth 100000 in
theorem mr_I_71 : ∀ j, j < 64 → mr0 179 190 179 71 j = mdR (ltR (fun _ _ => none)) 71 j := by decide +kernel
set_option maxRecDepth 100000 in
theorem mr_I_72 : ∀ j, j < 64 → mr0 179 190 179 72 j = mdR (ltR (fun _ _ => none)) 72 j := by decide +kernel
set_option maxRecDepth 100000 in
theorem mr_I_73 : ∀ j, j < 64 → mr0 179 190 179 73 j = mdR (ltR (fun _ _ => none)) 73 j := by decide +kernel
set_option maxRecDepth 100000 in
theorem mr_I_74 : ∀ j, j < 64 → mr0 179 190 179 74 j = mdR (ltR (fun _ _ => none)) 74 j := by decide +kernel
set_option maxRecDepth 100000 in
theorem mr_I_75 : ∀ j, j < 64 → mr0 179 190 179 75 j = mdR (ltR (fun _ _ => none)) 75 j := by decide +kernel
set_option maxRecDepth 100000 in
theorem mr_I_76 : ∀ j, j < 64 → mr0 179 190 179 76 j = mdR (ltR (fun _ _ => none)) 76 j := by decide +kernel
set_option maxRecDepth 100000 in
theorem mr_I_77 : ∀ j, j < 64 → mr0 179 190 179 77 j = mdR (ltR (fun _ _ => none)) 77 j := by decide +kernel
set_option maxRecDepth 100000 in
theorem mr_I_78 : ∀ j, j < 64 → mr0 179 190 179 78 j = mdR (ltR (fun _ _ => none)) 78 j := by decide +kernel
set_option maxRecDepth 100000 in
theorem mr_I_79 : ∀ j, j < 64 → mr0 179 190 179 79 j = mdR (ltR (fun _ _ => none)) 79 j := by decide +kernel
set_option maxRecDepth 100000 in
theorem mr_I_80 : ∀ j, j < 64 → mr0 179 190 179 80 j = mdR (ltR (fun _ _ => none)) 80 j := by decide +kernel
set_option maxRecDepth 100000 in
theorem mr_I_81 : ∀ j, j < 64 → mr0 179 190 179 81 j = mdR (ltR (fun _ _ => none)) 81 j := by decide +kernel
set_option maxRecDepth 100000 in
theorem mr_I_82 : ∀ j, j < 64 → mr0 179 190 179 82 j = mdR (ltR (fun _ _ => none)) 82 j := by decide +kernel
set_option maxRecDepth 100000 in
theorem mr_I_83 : ∀ j, j < 64 → mr0 179 190 179 83 j = mdR (ltR (fun _ _ => none)) 83 j := by decide +kernel
set_option maxRecDepth 100000 in
theorem mr_I_84 : ∀ j, j < 64 → mr0 179 190 179 84 j = mdR (ltR (fun _ _ => none)) 84 j := by decide +kernel
set_option maxRecDepth 100000 in
theorem mr_I_85 : ∀ j, j < 64 → mr0 179 190 179 85 j = mdR (ltR (fun _ _ => none)) 85 j := by decide +kernel
set_option maxRecDepth 100000 in
theorem mr_I_86 : ∀ j, j < 64 → mr0 179 190 179 86 j = mdR (ltR (fun _ _ => none)) 86 j := by decide +kernel
set_option maxRecDepth 100000 in
theorem mr_I_87 : ∀ j, j < 64 → mr0 179 190 179 87 j = mdR (ltR (fun _ _ => none)) 87 j := by decide +kernel
set_option maxRecDepth 100000 in
theorem mr_I_88 : ∀ j, j < 64 → mr0 179 190 179 88 j = mdR (ltR (fun _ _ => none)) 88 j := by decide +kernel
set_option maxRecDepth 100000 in
theorem mr_I_89 : ∀ j, j < 64 → mr0 179 190 179 89 j = mdR (ltR (fun _ _ => none)) 89 j := by decide +kernel
set_option maxRecDepth 100000 in
theorem mr_I_90 : ∀ j, j < 64 → mr0 179 190 179 90 j = mdR (ltR (fun _ _ => none)) 90 j := by decide +kernel
set_option maxRecDepth 100000 in
theorem mr_I_91 : ∀ j, j < 64 → mr0 179 190 179 91 j = mdR (ltR (fun _ _ => none)) 91 j := by decide +kernel
set_option maxRecDepth 100000 in
theorem mr_I_92 : ∀ j, j < 64 → mr0 179 190 179 92 j = mdR (ltR (fun _ _ => none)) 92 j := by decide +kernel
set_option maxRecDepth 100000 in
theorem mr_I_93 : ∀ j, j < 64 → mr0 179 190 179 93 j = mdR (ltR (fun _ _ => none)) 93 j := by decide +kernel
set_option maxRecDepth 100000 in
theorem mr_I_94 : ∀ j, j < 64 → mr0 179 190 179 94 j = mdR (ltR (fun _ _ => none)) 94 j := by decide +kernel
set_option maxRecDepth 100000 in
theorem mr_I_95 : ∀ j, j < 64 → mr0 179 190 179 95 j = mdR (ltR (fun _ _ => none)) 95 j := by decide +kernel
set_option maxRecDepth 100000 in
theorem mr_I_96 : ∀ j, j < 64 → mr0 179 190 179 96 j = mdR (ltR (fun _ _ => none)) 96 j := by decide +kernel
set_option maxRecDepth 100000 in
theorem mr_I_97 : ∀ j, j < 64 → mr0 179 190 179 97 j = mdR (ltR (fun _ _ => none)) 97 j := by decide +kernel
set_option maxRecDepth 100000 in
theorem mr_I_98 : ∀ j, j < 64 → mr0 179 190 179 98 j = mdR (ltR (fun _ _ => none)) 98 j := by decide +kernel
set_option maxRecDepth 100000 in
theorem mr_I_99 : ∀ j, j < 64 → mr0 179 190 179 99 j = mdR (ltR (fun _ _ => none)) 99 j := by decide +kernel
set_option maxRecDepth 100000 in
theorem mr_I_100 : ∀ j, j < 64 → mr0 179 190 179 100 j = mdR (ltR (fun _ _ => none)) 100 j := by decide +kernel
set_option maxRecDepth 100000 in
theorem mr_I_101 : ∀ j, j < 64 → mr0 179 190 179 101 j = mdR (ltR (fun _ _ => none)) 101 j := by decide +kernel
set_option maxRecDepth 100000 in
theorem mr_I_102 : ∀ j, j < 64 → mr0 179 190 179 102 j = mdR (ltR (fun _ _ => none)) 102 j := by decide +kernel
set_option maxRecDepth 100000 in
theorem mr_I_103 : ∀ j, j < 64 → mr0 179 190 179 103 j = mdR (ltR (fun _ _ => none)) 103 j := by decide +kernel
set_option maxRecDepth 100000 in
theorem mr_I_104 : ∀ j, j < 64 → mr0 179 190 179 104 j = mdR (ltR (fun _ _ => none)) 104 j := by decide +kernel
set_option maxRecDepth 100000 in
theorem mr_I_105 : ∀ j, j < 64 → mr0 179 190 179 105 j = mdR (ltR (fun _ _ => none)) 105 j := by decide +kernel
set_option maxRecDepth 100000 in
theorem mr_I_106 : ∀ j, j < 64 → mr0 179 190 179 106 j = mdR (ltR (fun _ _ => none)) 106 j := by decide +kernel
set_option maxRecDepth 100000 in
theorem mr_I_107 : ∀ j, j < 64 → mr0 179 190 179 107 j = mdR (ltR (fun _ _ => none)) 107 j := by decide +kernel
set_option maxRecDepth 100000 in
theorem mr_I_108 : ∀ j, j < 64 → mr0 179 190 179 108 j = mdR (ltR (fun _ _ => none)) 108 j := by decide +kernel
set_option maxRecDepth 100000 in
theorem mr_I_109 : ∀ j, j < 64 → mr0 179 190 179 109 j = mdR (ltR (fun _ _ => none)) 109 j := by decide +kernel
set_option maxRecDepth 100000 in
theorem mr_I_110 : ∀ j, j < 64 → mr0 179 190 179 110 j = mdR (ltR (fun _ _ => none)) 110 j := by decide +kernel
set_option maxRecDepth 100000 in
theorem mr_I_111 : ∀ j, j < 64 → mr0 179 190 179 111 j = mdR (ltR (fun _ _ => none)) 111 j := by decide +kernel
set_option maxRecDepth 100000 in
theorem mr_I_112 : ∀ j, j < 64 → mr0 179 190 179 112 j = mdR (ltR (fun _ _ => none)) 112 j := by decide +kernel
set_option maxRecDepth 100000 in
theorem mr_I_113 : ∀ j, j < 64 → mr0 179 190 179 113 j = mdR (ltR (fun _ _ => none)) 113 j := by decide +kernel
set_option maxRecDepth 100000 in
theorem mr_I_114 : ∀ j, j < 64 → mr0 179 190 179 114 j = mdR (ltR (fun _ _ => none)) 114 j := by decide +kernel
set_option maxRecDepth 100000 in
theorem mr_I_115 : ∀ j, j < 64 → mr0 179 190 179 115 j = mdR (ltR (fun _ _ => none)) 115 j := by decide +kernel
set_option maxRecDepth 100000 in
theorem mr_I_116 : ∀ j, j < 64 → mr0 179 190 179 116 j = mdR (ltR (fun _ _ => none)) 116 j := by decide +kernel
set_option maxRecDepth 100000 in
theorem mr_I_117 : ∀ j, j < 64 → mr0 179 190 179 117 j = mdR (ltR (fun _ _ => none)) 117 j := by decide +kernel
set_option maxRecDepth 100000 in
theorem mr_I_118 : ∀ j, j < 64 → mr0 179 190 179 118 j = mdR (ltR (fun _ _ => none)) 118 j := by decide +kernel
set_option maxRecDepth 100000 in
theorem mr_I_119 : ∀ j, j < 64 → mr0 179 190 179 119 j = mdR (ltR (fun _ _ => none)) 119 j := by decide +kernel
set_option maxRecDepth 100000 in
theorem mr_I_120 : ∀ j, j < 64 → mr0 179 190 179 120 j = mdR (ltR (fun _ _ => none)) 120 j := by decide +kernel
set_option maxRecDepth 100000 in
theorem mr_I_121 : ∀ j, j < 64 → mr0 179 190 179 121 j = mdR (ltR (fun _ _ => none)) 121 j := by decide +kernel
set_option maxRecDepth 100000 in
theorem mr_I_122 : ∀ j, j < 64 → mr0 179 190 179 122 j = mdR (ltR (fun _ _ => none)) 122 j := by decide +kernel
set_option maxRecDepth 100000 in
theorem mr_I_123 : ∀ j, j < 64 → mr0 179 190 179 123 j = mdR (ltR (fun _ _ => none)) 123 j := by decide +kernel
set_option maxRecDepth 100000 in
theorem mr_I_124 : ∀ j, j < 64 → mr0 179 190 179 124 j = mdR (ltR (fun _ _ => none)) 124 j := by decide +kernel
set_option maxRecDepth 100000 in
theorem mr_I_125 : ∀ j, j < 64 → mr0 179 190 179 125 j = mdR (ltR (fun _ _ => none)) 125 j := by decide +kernel
set_option maxRecDepth 100000 in
theorem mr_I_126 : ∀ j, j < 64 → mr0 179 190 179 126 j = mdR (ltR (fun _ _ => none)) 126 j := by decide +kernel
set_option maxRecDepth 100000 in
theorem mr_I_127 : ∀ j, j < 64 → mr0 179 190 179 127 j = mdR (ltR (fun _ _ => none)) 127 j := by decide +kernel
set_option maxRecDepth 100000 in
theorem mr_I_128 : ∀ j, j < 64 → mr0 179 190 179 128 j = mdR (ltR (fun _ _ => none)) 128 j := by decide +kernel
set_option maxRecDepth 100000 in
theorem mr_I_129 : ∀ j, j < 64 → mr0 179 190 179 129 j = mdR (ltR (fun _ _ => none)) 129 j := by decide +kernel
set_option maxRecDepth 100000 in
theorem mr_I_130 : ∀ j, j < 64 → mr0 179 190 179 130 j = mdR (ltR (fun _ _ => none)) 130 j := by decide +kernel
set_option maxRecDepth 100000 in
theorem mr_I_131 : ∀ j, j < 64 → mr0 179 190 179 131 j = mdR (ltR (fun _ _ => none)) 131 j := by decide +kernel
set_option maxRecDepth 100000 in
theorem mr_I_132 : ∀ j, j < 64 → mr0 179 190 179 132 j = mdR (ltR (fun _ _ => none)) 132 j := by decide +kernel
set_option maxRecDepth 100000 in
theorem mr_I_133 : ∀ j, j < 64 → mr0 179 190 179 133 j = mdR (ltR (fun _ _ => none)) 133 j := by decide +kernel
set_option maxRecDepth 100000 in
theorem mr_I_134 : ∀ j, j < 64 → mr0 179 190 179 134 j = mdR (ltR (fun _ _ => none)) 134 j := by decide +kernel
set_option maxRecDepth 100000 in
theorem mr_I_135 : ∀ j, j < 64 → mr0 179 190 179 135 j = mdR (ltR (fun _ _ => none)) 135 j := by decide +kernel
set_option maxRecDepth 100000 in
theorem mr_I_136 : ∀ j, j < 64 → mr0 179 190 179 136 j = mdR (ltR (fun _ _ => none)) 136 j := by decide +kernel
set_option maxRecDepth 100000 in
theorem mr_I_137 : ∀ j, j < 64 → mr0 179 190 179 137 j = mdR (ltR (fun _ _ => none)) 137 j := by decide +kernel
set_option maxRecDepth 100000 in
theorem mr_I_138 : ∀ j, j < 64 → mr0 179 190 179 138 j = mdR (ltR (fun _ _ => none)) 138 j := by decide +kernel
set_option maxRecDepth 100000 in
theorem mr_I_139 : ∀ j, j < 64 → mr0 179 190 179 139 j = mdR (ltR (fun _ _ => none)) 139 j := by decide +kernel
set_option maxRecDepth 100000 in
theorem mr_I_140 : ∀ j, j < 64 → mr0 179 190 179 140 j = mdR (ltR (fun _ _ => none)) 140 j := by decide +kernel
set_option maxRecDepth 100000 in
theorem mr_I_141 : ∀ j, j < 64 → mr0 179 190 179 141 j = mdR (ltR (fun _ _ => none)) 141 j := by decide +kernel
set_option maxRecDepth 100000 in
theorem mr_I_142 : ∀ j, j < 64 → mr0 179 190 179 142 j = mdR (ltR (fun _ _ => none)) 142 j := by decide +kernel
set_option maxRecDepth 100000 in
theorem mr_I_143 : ∀ j, j < 64 → mr0 179 190 179 143 j = mdR (ltR (fun _ _ => none)) 143 j := by decide +kernel
set_option maxRecDepth 100000 in
theorem mr_I_144 : ∀ j, j < 64 → mr0 179 190 179 144 j = mdR (ltR (fun _ _ => none)) 144 j := by decide +kernel
set_option maxRecDepth 100000 in
theorem mr_I_145 : ∀ j, j < 64 → mr0 179 190 179 145 j = mdR (ltR (fun _ _ => none)) 145 j := by decide +kernel
set_option maxRecDepth 100000 in
theorem mr_I_146 : ∀ j, j < 64 → mr0 179 190 179 146 j = mdR (ltR (fun _ _ => none)) 146 j := by decide +kernel
set_option maxRecDepth 100000 in
theorem mr_I_147 : ∀ j, j < 64 → mr0 179 190 179 147 j = mdR (ltR (fun _ _ => none)) 147 j := by decide +kernel
set_option maxRecDepth 100000 in
theorem mr_I_148 : ∀ j, j < 64 → mr0 179 190 179 148 j = mdR (ltR (fun _ _ => none)) 148 j := by decide +kernel
set_option maxRecDepth 100000 in
theorem mr_I_149 : ∀ j, j < 64 → mr0 179 190 179 149 j = mdR (ltR (fun _ _ => none)) 149 j := by decide +kernel
set_option maxRecDepth 100000 in
theorem mr_I_150 : ∀ j, j < 64 → mr0 179 190 179 150 j = mdR (ltR (fun _ _ => none)) 150 j := by decide +kernel
set_option maxRecDepth 100000 in
theorem mr_I_151 : ∀ j, j < 64 → mr0 179 190 179 151 j = mdR (ltR (fun _ _ => none)) 151 j := by decide +kernel
set_option maxRecDepth 100000 in
theorem mr_I_152 : ∀ j, j < 64 → mr0 179 190 179 152 j = mdR (ltR (fun _ _ => none)) 152 j := by decide +kernel
set_option maxRecDepth 100000 in
theorem mr_I_153 : ∀ j, j < 64 → mr0 179 190 179 153 j = mdR (ltR (fun _ _ => none)) 153 j := by decide +kernel
set_option maxRecDepth 100000 in
theorem mr_I_154 : ∀ j, j < 64 → mr0 179 190 179 154 j = mdR (ltR (fun _ _ => none)) 154 j := by decide +kernel
set_option maxRecDepth 100000 in
theorem mr_I_155 : ∀ j, j < 64 → mr0 179 190 179 155 j = mdR (ltR (fun _ _ => none)) 155 j := by decide +kernel
set_option maxRecDepth 100000 in
theorem mr_I_156 : ∀ j, j < 64 → mr0 179 190 179 156 j = mdR (ltR (fun _ _ => none)) 156 j := by decide +kernel
set_option maxRecDepth 100000 in
theorem mr_I_157 : ∀ j, j < 64 → mr0 179 190 179 157 j = mdR (ltR (fun _ _ => none)) 157 j := by decide +kernel
set_option maxRecDepth 100000 in
theorem mr_I_158 : ∀ j, j < 64 → mr0 179 190 179 158 j = mdR (ltR (fun _ _ => none)) 158 j := by decide +kernel
set_option maxRecDepth 100000 in
theorem mr_I_159 : ∀ j, j < 64 → mr0 179 190 179 159 j = mdR (ltR (fun _ _ => none)) 159 j := by decide +kernel
set_option maxRecDepth 100000 in
theorem mr_I_160 : ∀ j, j < 64 → mr0 179 190 179 160 j = mdR (ltR (fun _ _ => none)) 160 j := by decide +kernel
set_option maxRecDepth 100000 in
theorem mr_I_161 : ∀ j, j < 64 → mr0 179 190 179 161 j = mdR (ltR (fun _ _ => none)) 161 j := by decide +kernel
set_option maxRecDepth 100000 in
theorem mr_I_162 : ∀ j, j < 64 → mr0 179 190 179 162 j = mdR (ltR (fun _ _ => none)) 162 j := by decide +kernel
set_option maxRecDepth 100000 in
theorem mr_I_163 : ∀ j, j < 64 → mr0 179 190 179 163 j = mdR (ltR (fun _ _ => none)) 163 j := by decide +kernel
set_option maxRecDepth 100000 in
theorem mr_I_164 : ∀ j, j < 64 → mr0 179 190 179 164 j = mdR (ltR (fun _ _ => none)) 164 j := by decide +kernel
set_option maxRecDepth 100000 in
theorem mr_I_165 : ∀ j, j < 64 → mr0 179 190 179 165 j = mdR (ltR (fun _ _ => none)) 165 j := by decide +kernel
set_option maxRecDepth 100000 in
theorem mr_I_166 : ∀ j, j < 64 → mr0 179 190 179 166 j = mdR (ltR (fun _ _ => none)) 166 j := by decide +kernel
set_option maxRecDepth 100000 in
theorem mr_I_167 : ∀ j, j < 64 → mr0 179 190 179 167 j = mdR (ltR (fun _ _ => none)) 167 j := by decide +kernel
set_option maxRecDepth 100000 in
theorem mr_I_168 : ∀ j, j < 64 → mr0 179 190 179 168 j = mdR (ltR (fun _ _ => none)) 168 j := by decide +kernel
set_option maxRecDepth 100000 in
theorem mr_I_169 : ∀ j, j < 64 → mr0 179 190 179 169 j = mdR (ltR (fun _ _ => none)) 169 j := by decide +kernel
set_option maxRecDepth 100000 in
theorem mr_I_170 : ∀ j, j < 64 → mr0 179 190 179 170 j = mdR (ltR (fun _ _ => none)) 170 j := by decide +kernel
set_option maxRecDepth 100000 in
theorem mr_I_171 : ∀ j, j < 64 → mr0 179 190 179 171 j = mdR (ltR (fun _ _ => none)) 171 j := by decide +kernel
set_option maxRecDepth 100000 in
theorem mr_I_172 : ∀ j, j < 64 → mr0 179 190 179 172 j = mdR (ltR (fun _ _ => none)) 172 j := by decide +kernel
set_option maxRecDepth 100000 in
theorem mr_I_173 : ∀ j, j < 64 → mr0 179 190 179 173 j = mdR (ltR (fun _ _ => none)) 173 j := by decide +kernel
set_option maxRecDepth 100000 in
theorem mr_I_174 : ∀ j, j < 64 → mr0 179 190 179 174 j = mdR (ltR (fun _ _ => none)) 174 j := by decide +kernel
set_option maxRecDepth 100000 in
theorem mr_I_175 : ∀ j, j < 64 → mr0 179 190 179 175 j = mdR (ltR (fun _ _ => none)) 175 j := by decide +kernel
set_option maxRecDepth 100000 in
theorem mr_I_176 : ∀ j, j < 64 → mr0 179 190 179 176 j = mdR (ltR (fun _ _ => none)) 176 j := by decide +kernel
set_option maxRecDepth 100000 in
theorem mr_I_177 : ∀ j, j < 64 → mr0 179 190 179 177 j = mdR (ltR (fun _ _ => none)) 177 j := by decide +kernel
set_option maxRecDepth 100000 in
theorem mr_I_178 : ∀ j, j < 64 → mr0 179 190 179 178 j = mdR (ltR (fun _ _ => none)) 178 j := by decide +kernel
set_option maxRecDepth 100000 in
theorem mr_I_179 : ∀ j, j < 64 → mr0 179 190 179 179 j = mdR (ltR (fun _ _ => none)) 179 j := by decide +kernel
set_option maxRecDepth 100000 in
theorem mr_I_180 : ∀ j, j < 64 → mr0 179 190 179 180 j = mdR (ltR (fun _ _ => none)) 180 j := by decide +kernel
set_option maxRecDepth 100000 in
theorem mr_I_181 : ∀ j, j < 64 → mr0 179 190 179 181 j = mdR (ltR (fun _ _ => none)) 181 j := by decide +kernel
set_option maxRecDepth 100000 in
theorem mr_I_182 : ∀ j, j < 64 → mr0 179 190 179 182 j = mdR (ltR (fun _ _ => none)) 182 j := by decide +kernel
set_option maxRecDepth 100000 in
theorem mr_I_183 : ∀ j, j < 64 → mr0 179 190 179 183 j = mdR (ltR (fun _ _ => none)) 183 j := by decide +kernel
set_option maxRecDepth 100000 in
theorem mr_I_184 : ∀ j, j < 64 → mr0 179 190 179 184 j = mdR (ltR (fun _ _ => none)) 184 j := by decide +kernel
set_option maxRecDepth 100000 in
theorem mr_I_185 : ∀ j, j < 64 → mr0 179 190 179 185 j = mdR (ltR (fun _ _ => none)) 185 j := by decide +kernel
set_option maxRecDepth 100000 in
theorem mr_I_186 : ∀ j, j < 64 → mr0 179 190 179 186 j = mdR (ltR (fun _ _ => none)) 186 j := by decide +kernel
set_option maxRecDepth 100000 in
theorem mr_I_187 : ∀ j, j < 64 → mr0 179 190 179 187 j = mdR (ltR (fun _ _ => none)) 187 j := by decide +kernel
set_option maxRecDepth 100000 in
theorem mr_I_188 : ∀ j, j < 64 → mr0 179 190 179 188 j = mdR (ltR (fun _ _ => none)) 188 j := by decide +kernel
set_option maxRecDepth 100000 in
theorem mr_I_189 : ∀ j, j < 64 → mr0 179 190 179 189 j = mdR (ltR (fun _ _ => none)) 189 j := by decide +kernel
set_option maxRecDepth 100000 in
theorem mr_I_190 : ∀ j, j < 64 → mr0 179 190 179 190 j = mdR (ltR (fun _ _ => none)) 190 j := by decide +kernel
set_option maxRecDepth 100000 in
theorem mr_I_191 : ∀ j, j < 64 → mr0 179 190 179 191 j = mdR (ltR (fun _ _ => none)) 191 j := by decide +kernel
set_option maxRecDepth 100000 in
theorem mr_I_192 : ∀ j, j < 64 → mr0 179 190 179 192 j = mdR (ltR (fun _ _ => none)) 192 j := by decide +kernel
set_option maxRecDepth 100000 in
theorem mr_I_193 : ∀ j, j < 64 → mr0 179 190 179 193 j = mdR (ltR (fun _ _ => none)) 193 j := by decide +kernel
set_option maxRecDepth 100000 in
theorem mr_I_194 : ∀ j, j < 64 → mr0 179 190 179 194 j = mdR (ltR (fun _ _ => none)) 194 j := by decide +kernel
set_option maxRecDepth 100000 in
theorem mr_I_195 : ∀ j, j < 64 → mr0 179 190 179 195 j = mdR (ltR (fun _ _ => none)) 195 j := by decide +kernel
set_option maxRecDepth 100000 in
theorem mr_I_196 : ∀ j, j < 64 → mr0 179 190 179 196 j = mdR (ltR (fun _ _ => none)) 196 j := by decide +kernel
set_option maxRecDepth 100000 in
theorem mr_I_197 : ∀ j, j < 64 → mr0 179 190 179 197 j = mdR (ltR (fun _ _ => none)) 197 j := by decide +kernel
set_option maxRecDepth 100000 in
theorem mr_I_198 : ∀ j, j < 64 → mr0 179 190 179 198 j = mdR (ltR (fun _ _ => none)) 198 j := by decide +kernel
set_option maxRecDepth 100000 in
theorem mr_I_199 : ∀ j, j < 64 → mr0 179 190 179 199 j = mdR (ltR (fun _ _ => none)) 199 j := by decide +kernel
set_option maxRecDepth 100000 in
theorem mr_I_200 : ∀ j, j < 64 → mr0 179 190 179 200 j = mdR (ltR (fun _ _ => none)) 200 j := by decide +kernel
set_option maxRecDepth 100000 in
theorem mr_I_201 : ∀ j, j < 64 → mr0 179 190 179 201 j = mdR (ltR (fun _ _ => none)) 201 j := by decide +kernel
set_option maxRecDepth 100000 in
theorem mr_I_202 : ∀ j, j < 64 → mr0 179 190 179 202 j = mdR (ltR (fun _ _ => none)) 202 j := by decide +kernel
set_option maxRecDepth 100000 in
theorem mr_I_203 : ∀ j, j < 64 → mr0 179 190 179 203 j = mdR (ltR (fun _ _ => none)) 203 j := by decide +kernel
set_option maxRecDepth 100000 in
theorem mr_I_204 : ∀ j, j < 64 → mr0 179 190 179 204 j = mdR (ltR (fun _ _ => none)) 204 j := by decide +kernel
set_option maxRecDepth 100000 in
theorem mr_I_205 : ∀ j, j < 64 → mr0 179 190 179 205 j = mdR (ltR (fun _ _ => none)) 205 j := by decide +kernel
set_option maxRecDepth 100000 in
theorem mr_I_206 : ∀ j, j < 64 → mr0 179 190 179 206 j = mdR (ltR (fun _ _ => none)) 206 j := by decide +kernel
set_option maxRecDepth 100000 in
theorem mr_I_207 : ∀ j, j < 64 → mr0 179 190 179 207 j = mdR (ltR (fun _ _ => none)) 207 j := by decide +kernel
set_option maxRecDepth 100000 in
theorem mr_I_208 : ∀ j, j < 64 → mr0 179 190 179 208 j = mdR (ltR (fun _ _ => none)) 208 j := by decide +kernel
set_option maxRecDepth 100000 in
theorem mr_I_209 : ∀ j, j < 64 → mr0 179 190 179 209 j = mdR (ltR (fun _ _ => none)) 209 j := by decide +kernel
set_option maxRecDepth 100000 in
theorem mr_I_210 : ∀ j, j < 64 → mr0 179 190 179 210 j = mdR (ltR (fun _ _ => none)) 210 j := by decide +kernel
set_option maxRecDepth 100000 in
theorem mr_I_211 : ∀ j, j < 64 → mr0 179 190 179 211 j = mdR (ltR (fun _ _ => none)) 211 j := by decide +kernel
set_option maxRecDepth 100000 in
theorem mr_I_212 : ∀ j, j < 64 → mr0 179 190 179 212 j = mdR (ltR (fun _ _ => none)) 212 j := by decide +kernel
set_option maxRecDepth 100000 in
theorem mr_I_213 : ∀ j, j < 64 → mr0 179 190 179 213 j = mdR (ltR (fun _ _ => none)) 213 j := by decide +kernel
set_option maxRecDepth 100000 in
theorem mr_I_214 : ∀ j, j < 64 → mr0 179 190 179 214 j = mdR (ltR (fun _ _ => none)) 214 j := by decide +kernel
set_option maxRecDepth 100000 in
theorem mr_I_215 : ∀ j, j < 64 → mr0 179 190 179 215 j = mdR (ltR (fun _ _ => none)) 215 j := by decide +kernel
set_option maxRecDepth 100000 in
theorem mr_I_216 : ∀ j, j < 64 → mr0 179 190 179 216 j = mdR (ltR (fun _ _ => none)) 216 j := by decide +kernel
set_option maxRecDepth 100000 in
theorem mr_I_217 : ∀ j, j < 64 → mr0 179 190 179 217 j = mdR (ltR (fun _ _ => none)) 217 j := by decide +kernel
set_option maxRecDepth 100000 in
theorem mr_I_218 : ∀ j, j < 64 → mr0 179 190 179 218 j = mdR (ltR (fun _ _ => none)) 218 j := by decide +kernel
set_option maxRecDepth 100000 in
theorem mr_I_219 : ∀ j, j < 64 → mr0 179 190 179 219 j = mdR (ltR (fun _ _ => none)) 219 j := by decide +kernel
set_option maxRecDepth 100000 in
theorem mr_I_220 : ∀ j, j < 64 → mr0 179 190 179 220 j = mdR (ltR (fun _ _ => none)) 220 j := by decide +kernel
set_option maxRecDepth 100000 in
theorem mr_I_221 : ∀ j, j < 64 → mr0 179 190 179 221 j = mdR (ltR (fun _ _ => none)) 221 j := by decide +kernel
set_option maxRecDepth 100000 in
theorem mr_I_222 : ∀ j, j < 64 → mr0 179 190 179 222 j = mdR (ltR (fun _ _ => none)) 222 j := by decide +kernel
set_option maxRecDepth 100000 in
theorem mr_I_223 : ∀ j, j < 64 → mr0 179 190 179 223 j = mdR (ltR (fun _ _ => none)) 223 j := by decide +kernel
set_option maxRecDepth 100000 in
theorem mr_I_224 : ∀ j, j < 64 → mr0 179 190 179 224 j = mdR (ltR (fun _ _ => none)) 224 j := by decide +kernel
set_option maxRecDepth 100000 in
theorem mr_I_225 : ∀ j, j < 64 → mr0 179 190 179 225 j = mdR (ltR (fun _ _ => none)) 225 j := by decide +kernel
set_option maxRecDepth 100000 in
theorem mr_I_226 : ∀ j, j < 64 → mr0 179 190 179 226 j = mdR (ltR (fun _ _ => none)) 226 j := by decide +kernel
theorem mr_I : ∀ k, k < 227 → ∀ j, j < 64 → mr0 179 190 179 k j = mdR (ltR (fun _ _ => none)) k j := by
  intro k hk
  by_cases h113 : k < 113
  · skip
    by_cases h56 : k < 56
    · skip
      by_cases h28 : k < 28
      · skip
        by_cases h14 : k < 14
        · skip
          by_cases h7 : k < 7
          · skip
            by_cases h3 : k < 3
            · skip
              by_cases h1 : k < 1
              · skip
                have e : k = 0 := by omega
                subst e
                exact mr_I_0
              · skip
                by_cases h2 : k < 2
                · skip
                  have e : k = 1 := by omega
                  subst e
                  exact mr_I_1
                · skip
                  have e : k = 2 := by omega
                  subst e
                  exact mr_I_2
            · skip
              by_cases h5 : k < 5
              · skip
                by_cases h4 : k < 4
                · skip
                  have e : k = 3 := by omega
                  subst e
                  exact mr_I_3
                · skip
                  have e : k = 4 := by omega
                  subst e
                  exact mr_I_4
              · skip
                by_cases h6 : k < 6
                · skip
                  have e : k = 5 := by omega
                  subst e
                  exact mr_I_5
                · skip
                  have e : k = 6 := by omega
                  subst e
                  exact mr_I_6
          · skip
            by_cases h10 : k < 10
            · skip
              by_cases h8 : k < 8
              · skip
                have e : k = 7 := by omega
                subst e
                exact mr_I_7
              · skip
                by_cases h9 : k < 9
                · skip
                  have e : k = 8 := by omega
                  subst e
                  exact mr_I_8
                · skip
                  have e : k = 9 := by omega
                  subst e
                  exact mr_I_9
            · skip
              by_cases h12 : k < 12
              · skip
                by_cases h11 : k < 11
                · skip
                  have e : k = 10 := by omega
                  subst e
                  exact mr_I_10
                · skip
                  have e : k = 11 := by omega
                  subst e
                  exact mr_I_11
              · skip
                by_cases h13 : k < 13
                · skip
                  have e : k = 12 := by omega
                  subst e
                  exact mr_I_12
                · skip
                  have e : k = 13 := by omega
                  subst e
                  exact mr_I_13
        · skip
          by_cases h21 : k < 21
          · skip
            by_cases h17 : k < 17
            · skip
              by_cases h15 : k < 15
              · skip
                have e : k = 14 := by omega
                subst e
                exact mr_I_14
              · skip
                by_cases h16 : k < 16
                · skip
                  have e : k = 15 := by omega
                  subst e
                  exact mr_I_15
                · skip
                  have e : k = 16 := by omega
                  subst e
                  exact mr_I_16
            · skip
              by_cases h19 : k < 19
              · skip
                by_cases h18 : k < 18
                · skip
                  have e : k = 17 := by omega
                  subst e
                  exact mr_I_17
                · skip
                  have e : k = 18 := by omega
                  subst e
                  exact mr_I_18
              · skip
                by_cases h20 : k < 20
                · skip
                  have e : k = 19 := by omega
                  subst e
                  exact mr_I_19
                · skip
                  have e : k = 20 := by omega
                  subst e
                  exact mr_I_20
          · skip
            by_cases h24 : k < 24
            · skip
              by_cases h22 : k < 22
              · skip
                have e : k = 21 := by omega
                subst e
                exact mr_I_21
              · skip
                by_cases h23 : k < 23
                · skip
                  have e : k = 22 := by omega
                  subst e
                  exact mr_I_22
                · skip
                  have e : k = 23 := by omega
                  subst e
                  exact mr_I_23
            · skip
              by_cases h26 : k < 26
              · skip
                by_cases h25 : k < 25
                · skip
                  have e : k = 24 := by omega
                  subst e
                  exact mr_I_24
                · skip
                  have e : k = 25 := by omega
                  subst e
                  exact mr_I_25
              · skip
                by_cases h27 : k < 27
                · skip
                  have e : k = 26 := by omega
                  subst e
                  exact mr_I_26
                · skip
                  have e : k = 27 := by omega
                  subst e
                  exact mr_I_27
      · skip
        by_cases h42 : k < 42
        · skip
          by_cases h35 : k < 35
          · skip
            by_cases h31 : k < 31
            · skip
              by_cases h29 : k < 29
              · skip
                have e : k = 28 := by omega
                subst e
                exact mr_I_28
              · skip
                by_cases h30 : k < 30
                · skip
                  have e : k = 29 := by omega
                  subst e
                  exact mr_I_29
                · skip
                  have e : k = 30 := by omega
                  subst e
                  exact mr_I_30
            · skip
              by_cases h33 : k < 33
              · skip
                by_cases h32 : k < 32
                · skip
                  have e : k = 31 := by omega
                  subst e
                  exact mr_I_31
                · skip
                  have e : k = 32 := by omega
                  subst e
                  exact mr_I_32
              · skip
                by_cases h34 : k < 34
                · skip
                  have e : k = 33 := by omega
                  subst e
                  exact mr_I_33
                · skip
                  have e : k = 34 := by omega
                  subst e
                  exact mr_I_34
          · skip
            by_cases h38 : k < 38
            · skip
              by_cases h36 : k < 36
              · skip
                have e : k = 35 := by omega
                subst e
                exact mr_I_35
              · skip
                by_cases h37 : k < 37
                · skip
                  have e : k = 36 := by omega
                  subst e
                  exact mr_I_36
                · skip
                  have e : k = 37 := by omega
                  subst e
                  exact mr_I_37
            · skip
              by_cases h40 : k < 40
              · skip
                by_cases h39 : k < 39
                · skip
                  have e : k = 38 := by omega
                  subst e
                  exact mr_I_38
                · skip
                  have e : k = 39 := by omega
                  subst e
                  exact mr_I_39
              · skip
                by_cases h41 : k < 41
                · skip
                  have e : k = 40 := by omega
                  subst e
                  exact mr_I_40
                · skip
                  have e : k = 41 := by omega
                  subst e
                  exact mr_I_41
        · skip
          by_cases h49 : k < 49
          · skip
            by_cases h45 : k < 45
            · skip
              by_cases h43 : k < 43
              · skip
                have e : k = 42 := by omega
                subst e
                exact mr_I_42
              · skip
                by_cases h44 : k < 44
                · skip
                  have e : k = 43 := by omega
                  subst e
                  exact mr_I_43
                · skip
                  have e : k = 44 := by omega
                  subst e
                  exact mr_I_44
            · skip
              by_cases h47 : k < 47
              · skip
                by_cases h46 : k < 46
                · skip
                  have e : k = 45 := by omega
                  subst e
                  exact mr_I_45
                · skip
                  have e : k = 46 := by omega
                  subst e
                  exact mr_I_46
              · skip
                by_cases h48 : k < 48
                · skip
                  have e : k = 47 := by omega
                  subst e
                  exact mr_I_47
                · skip
                  have e : k = 48 := by omega
                  subst e
                  exact mr_I_48
          · skip
            by_cases h52 : k < 52
            · skip
              by_cases h50 : k < 50
              · skip
                have e : k = 49 := by omega
                subst e
                exact mr_I_49
              · skip
                by_cases h51 : k < 51
                · skip
                  have e : k = 50 := by omega
                  subst e
                  exact mr_I_50
                · skip
                  have e : k = 51 := by omega
                  subst e
                  exact mr_I_51
            · skip
              by_cases h54 : k < 54
              · skip
                by_cases h53 : k < 53
                · skip
                  have e : k = 52 := by omega
                  subst e
                  exact mr_I_52
                · skip
                  have e : k = 53 := by omega
                  subst e
                  exact mr_I_53
              · skip
                by_cases h55 : k < 55
                · skip
                  have e : k = 54 := by omega
                  subst e
                  exact mr_I_54
                · skip
                  have e : k = 55 := by omega
                  subst e
                  exact mr_I_55
    · skip
      by_cases h84 : k < 84
      · skip
        by_cases h70 : k < 70
        · skip
          by_cases h63 : k < 63
          · skip
            by_cases h59 : k < 59
            · skip
              by_cases h57 : k < 57
              · skip
                have e : k = 56 := by omega
                subst e
                exact mr_I_56
              · skip
                by_cases h58 : k < 58
                · skip
                  have e : k = 57 := by omega
                  subst e
                  exact mr_I_57
                · skip
                  have e : k = 58 := by omega
                  subst e
                  exact mr_I_58
            · skip
              by_cases h61 : k < 61
              · skip
                by_cases h60 : k < 60
                · skip
                  have e : k = 59 := by omega
                  subst e
                  exact mr_I_59
                · skip
                  have e : k = 60 := by omega
                  subst e
                  exact mr_I_60
              · skip
                by_cases h62 : k < 62
                · skip
                  have e : k = 61 := by omega
                  subst e
                  exact mr_I_61
                · skip
                  have e : k = 62 := by omega
                  subst e
                  exact mr_I_62
          · skip
            by_cases h66 : k < 66
            · skip
              by_cases h64 : k < 64
              · skip
                have e : k = 63 := by omega
                subst e
                exact mr_I_63
              · skip
                by_cases h65 : k < 65
                · skip
                  have e : k = 64 := by omega
                  subst e
                  exact mr_I_64
                · skip
                  have e : k = 65 := by omega
                  subst e
                  exact mr_I_65
            · skip
              by_cases h68 : k < 68
              · skip
                by_cases h67 : k < 67
                · skip
                  have e : k = 66 := by omega
                  subst e
                  exact mr_I_66
                · skip
                  have e : k = 67 := by omega
                  subst e
                  exact mr_I_67
              · skip
                by_cases h69 : k < 69
                · skip
                  have e : k = 68 := by omega
                  subst e
                  exact mr_I_68
                · skip
                  have e : k = 69 := by omega
                  subst e
                  exact mr_I_69
        · skip
          by_cases h77 : k < 77
          · skip
            by_cases h73 : k < 73
            · skip
              by_cases h71 : k < 71
              · skip
                have e : k = 70 := by omega
                subst e
                exact mr_I_70
              · skip
                by_cases h72 : k < 72
                · skip
                  have e : k = 71 := by omega
                  subst e
                  exact mr_I_71
                · skip
                  have e : k = 72 := by omega
                  subst e
                  exact mr_I_72
            · skip
              by_cases h75 : k < 75
              · skip
                by_cases h74 : k < 74
                · skip
                  have e : k = 73 := by omega
                  subst e
                  exact mr_I_73
                · skip
                  have e : k = 74 := by omega
                  subst e
                  exact mr_I_74
              · skip
                by_cases h76 : k < 76
                · skip
                  have e : k = 75 := by omega
                  subst e
                  exact mr_I_75
                · skip
                  have e : k = 76 := by omega
                  subst e
                  exact mr_I_76
          · skip
            by_cases h80 : k < 80
            · skip
              by_cases h78 : k < 78
              · skip
                have e : k = 77 := by omega
                subst e
                exact mr_I_77
              · skip
                by_cases h79 : k < 79
                · skip
                  have e : k = 78 := by omega
                  subst e
                  exact mr_I_78
                · skip
                  have e : k = 79 := by omega
                  subst e
                  exact mr_I_79
            · skip
              by_cases h82 : k < 82
              · skip
                by_cases h81 : k < 81
                · skip
                  have e : k = 80 := by omega
                  subst e
                  exact mr_I_80
                · skip
                  have e : k = 81 := by omega
                  subst e
                  exact mr_I_81
              · skip
                by_cases h83 : k < 83
                · skip
                  have e : k = 82 := by omega
                  subst e
                  exact mr_I_82
                · skip
                  have e : k = 83 := by omega
                  subst e
                  exact mr_I_83
      · skip
        by_cases h98 : k < 98
        · skip
          by_cases h91 : k < 91
          · skip
            by_cases h87 : k < 87
            · skip
              by_cases h85 : k < 85
              · skip
                have e : k = 84 := by omega
                subst e
                exact mr_I_84
              · skip
                by_cases h86 : k < 86
                · skip
                  have e : k = 85 := by omega
                  subst e
                  exact mr_I_85
                · skip
                  have e : k = 86 := by omega
                  subst e
                  exact mr_I_86
            · skip
              by_cases h89 : k < 89
              · skip
                by_cases h88 : k < 88
                · skip
                  have e : k = 87 := by omega
                  subst e
                  exact mr_I_87
                · skip
                  have e : k = 88 := by omega
                  subst e
                  exact mr_I_88
              · skip
                by_cases h90 : k < 90
                · skip
                  have e : k = 89 := by omega
                  subst e
                  exact mr_I_89
                · skip
                  have e : k = 90 := by omega
                  subst e
                  exact mr_I_90
          · skip
            by_cases h94 : k < 94
            · skip
              by_cases h92 : k < 92
              · skip
                have e : k = 91 := by omega
                subst e
                exact mr_I_91
              · skip
                by_cases h93 : k < 93
                · skip
                  have e : k = 92 := by omega
                  subst e
                  exact mr_I_92
                · skip
                  have e : k = 93 := by omega
                  subst e
                  exact mr_I_93
            · skip
              by_cases h96 : k < 96
              · skip
                by_cases h95 : k < 95
                · skip
                  have e : k = 94 := by omega
                  subst e
                  exact mr_I_94
                · skip
                  have e : k = 95 := by omega
                  subst e
                  exact mr_I_95
              · skip
                by_cases h97 : k < 97
                · skip
                  have e : k = 96 := by omega
                  subst e
                  exact mr_I_96
                · skip
                  have e : k = 97 := by omega
                  subst e
                  exact mr_I_97
        · skip
          by_cases h105 : k < 105
          · skip
            by_cases h101 : k < 101
            · skip
              by_cases h99 : k < 99
              · skip
                have e : k = 98 := by omega
                subst e
                exact mr_I_98
              · skip
                by_cases h100 : k < 100
                · skip
                  have e : k = 99 := by omega
                  subst e
                  exact mr_I_99
                · skip
                  have e : k = 100 := by omega
                  subst e
                  exact mr_I_100
            · skip
              by_cases h103 : k < 103
              · skip
                by_cases h102 : k < 102
                · skip
                  have e : k = 101 := by omega
                  subst e
                  exact mr_I_101
                · skip
                  have e : k = 102 := by omega
                  subst e
                  exact mr_I_102
              · skip
                by_cases h104 : k < 104
                · skip
                  have e : k = 103 := by omega
                  subst e
                  exact mr_I_103
                · skip
                  have e : k = 104 := by omega
                  subst e
                  exact mr_I_104
          · skip
            by_cases h109 : k < 109
            · skip
              by_cases h107 : k < 107
              · skip
                by_cases h106 : k < 106
                · skip
                  have e : k = 105 := by omega
                  subst e
                  exact mr_I_105
                · skip
                  have e : k = 106 := by omega
                  subst e
                  exact mr_I_106
              · skip
                by_cases h108 : k < 108
                · skip
                  have e : k = 107 := by omega
                  subst e
                  exact mr_I_107
                · skip
                  have e : k = 108 := by omega
                  subst e
                  exact mr_I_108
            · skip
              by_cases h111 : k < 111
              · skip
                by_cases h110 : k < 110
                · skip
                  have e : k = 109 := by omega
                  subst e
                  exact mr_I_109
                · skip
                  have e : k = 110 := by omega
                  subst e
                  exact mr_I_110
              · skip
                by_cases h112 : k < 112
                · skip
                  have e : k = 111 := by omega
                  subst e
                  exact mr_I_111
                · skip
                  have e : k = 112 := by omega
                  subst e
                  exact mr_I_112
  · skip
    by_cases h170 : k < 170
    · skip
      by_cases h141 : k < 141
      · skip
        by_cases h127 : k < 127
        · skip
          by_cases h120 : k < 120
          · skip
            by_cases h116 : k < 116
            · skip
              by_cases h114 : k < 114
              · skip
                have e : k = 113 := by omega
                subst e
                exact mr_I_113
              · skip
                by_cases h115 : k < 115
                · skip
                  have e : k = 114 := by omega
                  subst e
                  exact mr_I_114
                · skip
                  have e : k = 115 := by omega
                  subst e
                  exact mr_I_115
            · skip
              by_cases h118 : k < 118
              · skip
                by_cases h117 : k < 117
                · skip
                  have e : k = 116 := by omega
                  subst e
                  exact mr_I_116
                · skip
                  have e : k = 117 := by omega
                  subst e
                  exact mr_I_117
              · skip
                by_cases h119 : k < 119
                · skip
                  have e : k = 118 := by omega
                  subst e
                  exact mr_I_118
                · skip
                  have e : k = 119 := by omega
                  subst e
                  exact mr_I_119
          · skip
            by_cases h123 : k < 123
            · skip
              by_cases h121 : k < 121
              · skip
                have e : k = 120 := by omega
                subst e
                exact mr_I_120
              · skip
                by_cases h122 : k < 122
                · skip
                  have e : k = 121 := by omega
                  subst e
                  exact mr_I_121
                · skip
                  have e : k = 122 := by omega
                  subst e
                  exact mr_I_122
            · skip
              by_cases h125 : k < 125
              · skip
                by_cases h124 : k < 124
                · skip
                  have e : k = 123 := by omega
                  subst e
                  exact mr_I_123
                · skip
                  have e : k = 124 := by omega
                  subst e
                  exact mr_I_124
              · skip
                by_cases h126 : k < 126
                · skip
                  have e : k = 125 := by omega
                  subst e
                  exact mr_I_125
                · skip
                  have e : k = 126 := by omega
                  subst e
                  exact mr_I_126
        · skip
          by_cases h134 : k < 134
          · skip
            by_cases h130 : k < 130
            · skip
              by_cases h128 : k < 128
              · skip
                have e : k = 127 := by omega
                subst e
                exact mr_I_127
              · skip
                by_cases h129 : k < 129
                · skip
                  have e : k = 128 := by omega
                  subst e
                  exact mr_I_128
                · skip
                  have e : k = 129 := by omega
                  subst e
                  exact mr_I_129
            · skip
              by_cases h132 : k < 132
              · skip
                by_cases h131 : k < 131
                · skip
                  have e : k = 130 := by omega
                  subst e
                  exact mr_I_130
                · skip
                  have e : k = 131 := by omega
                  subst e
                  exact mr_I_131
              · skip
                by_cases h133 : k < 133
                · skip
                  have e : k = 132 := by omega
                  subst e
                  exact mr_I_132
                · skip
                  have e : k = 133 := by omega
                  subst e
                  exact mr_I_133
          · skip
            by_cases h137 : k < 137
            · skip
              by_cases h135 : k < 135
              · skip
                have e : k = 134 := by omega
                subst e
                exact mr_I_134
              · skip
                by_cases h136 : k < 136
                · skip
                  have e : k = 135 := by omega
                  subst e
                  exact mr_I_135
                · skip
                  have e : k = 136 := by omega
                  subst e
                  exact mr_I_136
            · skip
              by_cases h139 : k < 139
              · skip
                by_cases h138 : k < 138
                · skip
                  have e : k = 137 := by omega
                  subst e
                  exact mr_I_137
                · skip
                  have e : k = 138 := by omega
                  subst e
                  exact mr_I_138
              · skip
                by_cases h140 : k < 140
                · skip
                  have e : k = 139 := by omega
                  subst e
                  exact mr_I_139
                · skip
                  have e : k = 140 := by omega
                  subst e
                  exact mr_I_140
      · skip
        by_cases h155 : k < 155
        · skip
          by_cases h148 : k < 148
          · skip
            by_cases h144 : k < 144
            · skip
              by_cases h142 : k < 142
              · skip
                have e : k = 141 := by omega
                subst e
                exact mr_I_141
              · skip
                by_cases h143 : k < 143
                · skip
                  have e : k = 142 := by omega
                  subst e
                  exact mr_I_142
                · skip
                  have e : k = 143 := by omega
                  subst e
                  exact mr_I_143
            · skip
              by_cases h146 : k < 146
              · skip
                by_cases h145 : k < 145
                · skip
                  have e : k = 144 := by omega
                  subst e
                  exact mr_I_144
                · skip
                  have e : k = 145 := by omega
                  subst e
                  exact mr_I_145
              · skip
                by_cases h147 : k < 147
                · skip
                  have e : k = 146 := by omega
                  subst e
                  exact mr_I_146
                · skip
                  have e : k = 147 := by omega
                  subst e
                  exact mr_I_147
          · skip
            by_cases h151 : k < 151
            · skip
              by_cases h149 : k < 149
              · skip
                have e : k = 148 := by omega
                subst e
                exact mr_I_148
              · skip
                by_cases h150 : k < 150
                · skip
                  have e : k = 149 := by omega
                  subst e
                  exact mr_I_149
                · skip
                  have e : k = 150 := by omega
                  subst e
                  exact mr_I_150
            · skip
              by_cases h153 : k < 153
              · skip
                by_cases h152 : k < 152
                · skip
                  have e : k = 151 := by omega
                  subst e
                  exact mr_I_151
                · skip
                  have e : k = 152 := by omega
                  subst e
                  exact mr_I_152
              · skip
                by_cases h154 : k < 154
                · skip
                  have e : k = 153 := by omega
                  subst e
                  exact mr_I_153
                · skip
                  have e : k = 154 := by omega
                  subst e
                  exact mr_I_154
        · skip
          by_cases h162 : k < 162
          · skip
            by_cases h158 : k < 158
            · skip
              by_cases h156 : k < 156
              · skip
                have e : k = 155 := by omega
                subst e
                exact mr_I_155
              · skip
                by_cases h157 : k < 157
                · skip
                  have e : k = 156 := by omega
                  subst e
                  exact mr_I_156
                · skip
                  have e : k = 157 := by omega
                  subst e
                  exact mr_I_157
            · skip
              by_cases h160 : k < 160
              · skip
                by_cases h159 : k < 159
                · skip
                  have e : k = 158 := by omega
                  subst e
                  exact mr_I_158
                · skip
                  have e : k = 159 := by omega
                  subst e
                  exact mr_I_159
              · skip
                by_cases h161 : k < 161
                · skip
                  have e : k = 160 := by omega
                  subst e
                  exact mr_I_160
                · skip
                  have e : k = 161 := by omega
                  subst e
                  exact mr_I_161
          · skip
            by_cases h166 : k < 166
            · skip
              by_cases h164 : k < 164
              · skip
                by_cases h163 : k < 163
                · skip
                  have e : k = 162 := by omega
                  subst e
                  exact mr_I_162
                · skip
                  have e : k = 163 := by omega
                  subst e
                  exact mr_I_163
              · skip
                by_cases h165 : k < 165
                · skip
                  have e : k = 164 := by omega
                  subst e
                  exact mr_I_164
                · skip
                  have e : k = 165 := by omega
                  subst e
                  exact mr_I_165
            · skip
              by_cases h168 : k < 168
              · skip
                by_cases h167 : k < 167
                · skip
                  have e : k = 166 := by omega
                  subst e
                  exact mr_I_166
                · skip
                  have e : k = 167 := by omega
                  subst e
                  exact mr_I_167
              · skip
                by_cases h169 : k < 169
                · skip
                  have e : k = 168 := by omega
                  subst e
                  exact mr_I_168
                · skip
                  have e : k = 169 := by omega
                  subst e
                  exact mr_I_169
    · skip
      by_cases h198 : k < 198
      · skip
        by_cases h184 : k < 184
        · skip
          by_cases h177 : k < 177
          · skip
            by_cases h173 : k < 173
            · skip
              by_cases h171 : k < 171
              · skip
                have e : k = 170 := by omega
                subst e
                exact mr_I_170
              · skip
                by_cases h172 : k < 172
                · skip
                  have e : k = 171 := by omega
                  subst e
                  exact mr_I_171
                · skip
                  have e : k = 172 := by omega
                  subst e
                  exact mr_I_172
            · skip
              by_cases h175 : k < 175
              · skip
                by_cases h174 : k < 174
                · skip
                  have e : k = 173 := by omega
                  subst e
                  exact mr_I_173
                · skip
                  have e : k = 174 := by omega
                  subst e
                  exact mr_I_174
              · skip
                by_cases h176 : k < 176
                · skip
                  have e : k = 175 := by omega
                  subst e
                  exact mr_I_175
                · skip
                  have e : k = 176 := by omega
                  subst e
                  exact mr_I_176
          · skip
            by_cases h180 : k < 180
            · skip
              by_cases h178 : k < 178
              · skip
                have e : k = 177 := by omega
                subst e
                exact mr_I_177
              · skip
                by_cases h179 : k < 179
                · skip
                  have e : k = 178 := by omega
                  subst e
                  exact mr_I_178
                · skip
                  have e : k = 179 := by omega
                  subst e
                  exact mr_I_179
            · skip
              by_cases h182 : k < 182
              · skip
                by_cases h181 : k < 181
                · skip
                  have e : k = 180 := by omega
                  subst e
                  exact mr_I_180
                · skip
                  have e : k = 181 := by omega
                  subst e
                  exact mr_I_181
              · skip
                by_cases h183 : k < 183
                · skip
                  have e : k = 182 := by omega
                  subst e
                  exact mr_I_182
                · skip
                  have e : k = 183 := by omega
                  subst e
                  exact mr_I_183
        · skip
          by_cases h191 : k < 191
          · skip
            by_cases h187 : k < 187
            · skip
              by_cases h185 : k < 185
              · skip
                have e : k = 184 := by omega
                subst e
                exact mr_I_184
              · skip
                by_cases h186 : k < 186
                · skip
                  have e : k = 185 := by omega
                  subst e
                  exact mr_I_185
                · skip
                  have e : k = 186 := by omega
                  subst e
                  exact mr_I_186
            · skip
              by_cases h189 : k < 189
              · skip
                by_cases h188 : k < 188
                · skip
                  have e : k = 187 := by omega
                  subst e
                  exact mr_I_187
                · skip
                  have e : k = 188 := by omega
                  subst e
                  exact mr_I_188
              · skip
                by_cases h190 : k < 190
                · skip
                  have e : k = 189 := by omega
                  subst e
                  exact mr_I_189
                · skip
                  have e : k = 190 := by omega
                  subst e
                  exact mr_I_190
          · skip
            by_cases h194 : k < 194
            · skip
              by_cases h192 : k < 192
              · skip
                have e : k = 191 := by omega
                subst e
                exact mr_I_191
              · skip
                by_cases h193 : k < 193
                · skip
                  have e : k = 192 := by omega
                  subst e
                  exact mr_I_192
                · skip
                  have e : k = 193 := by omega
                  subst e
                  exact mr_I_193
            · skip
              by_cases h196 : k < 196
              · skip
                by_cases h195 : k < 195
                · skip
                  have e : k = 194 := by omega
                  subst e
                  exact mr_I_194
                · skip
                  have e : k = 195 := by omega
                  subst e
                  exact mr_I_195
              · skip
                by_cases h197 : k < 197
                · skip
                  have e : k = 196 := by omega
                  subst e
                  exact mr_I_196
                · skip
                  have e : k = 197 := by omega
                  subst e
                  exact mr_I_197
      · skip
        by_cases h212 : k < 212
        · skip
          by_cases h205 : k < 205
          · skip
            by_cases h201 : k < 201
            · skip
              by_cases h199 : k < 199
              · skip
                have e : k = 198 := by omega
                subst e
                exact mr_I_198
              · skip
                by_cases h200 : k < 200
                · skip
                  have e : k = 199 := by omega
                  subst e
                  exact mr_I_199
                · skip
                  have e : k = 200 := by omega
                  subst e
                  exact mr_I_200
            · skip
              by_cases h203 : k < 203
              · skip
                by_cases h202 : k < 202
                · skip
                  have e : k = 201 := by omega
                  subst e
                  exact mr_I_201
                · skip
                  have e : k = 202 := by omega
                  subst e
                  exact mr_I_202
              · skip
                by_cases h204 : k < 204
                · skip
                  have e : k = 203 := by omega
                  subst e
                  exact mr_I_203
                · skip
                  have e : k = 204 := by omega
                  subst e
                  exact mr_I_204
          · skip
            by_cases h208 : k < 208
            · skip
              by_cases h206 : k < 206
              · skip
                have e : k = 205 := by omega
                subst e
                exact mr_I_205
              · skip
                by_cases h207 : k < 207
                · skip
                  have e : k = 206 := by omega
                  subst e
                  exact mr_I_206
                · skip
                  have e : k = 207 := by omega
                  subst e
                  exact mr_I_207
            · skip
              by_cases h210 : k < 210
              · skip
                by_cases h209 : k < 209
                · skip
                  have e : k = 208 := by omega
                  subst e
                  exact mr_I_208
                · skip
                  have e : k = 209 := by omega
                  subst e
                  exact mr_I_209
              · skip
                by_cases h211 : k < 211
                · skip
                  have e : k = 210 := by omega
                  subst e
                  exact mr_I_210
                · skip
                  have e : k = 211 := by omega
                  subst e
                  exact mr_I_211
        · skip
          by_cases h219 : k < 219
          · skip
            by_cases h215 : k < 215
            · skip
              by_cases h213 : k < 213
              · skip
                have e : k = 212 := by omega
                subst e
                exact mr_I_212
              · skip
                by_cases h214 : k < 214
                · skip
                  have e : k = 213 := by omega
                  subst e
                  exact mr_I_213
                · skip
                  have e : k = 214 := by omega
                  subst e
                  exact mr_I_214
            · skip
              by_cases h217 : k < 217
              · skip
                by_cases h216 : k < 216
                · skip
                  have e : k = 215 := by omega
                  subst e
                  exact mr_I_215
                · skip
                  have e : k = 216 := by omega
                  subst e
                  exact mr_I_216
              · skip
                by_cases h218 : k < 218
                · skip
                  have e : k = 217 := by omega
                  subst e
                  exact mr_I_217
                · skip
                  have e : k = 218 := by omega
                  subst e
                  exact mr_I_218
          · skip
            by_cases h223 : k < 223
            · skip
              by_cases h221 : k < 221
              · skip
                by_cases h220 : k < 220
                · skip
                  have e : k = 219 := by omega
                  subst e
                  exact mr_I_219
                · skip
                  have e : k = 220 := by omega
                  subst e
                  exact mr_I_220
              · skip
                by_cases h222 : k < 222
                · skip
                  have e : k = 221 := by omega
                  subst e
                  exact mr_I_221
                · skip
                  have e : k = 222 := by omega
                  subst e
                  exact mr_I_222
            · skip
              by_cases h225 : k < 225
              · skip
                by_cases h224 : k < 224
                · skip
                  have e : k = 223 := by omega
                  subst e
                  exact mr_I_223
                · skip
                  have e : k = 224 := by omega
                  subst e
                  exact mr_I_224
              · skip
                by_cases h226 : k < 226
                · skip
                  have e : k = 225 := by omega
                  subst e
                  exact mr_I_225
                · skip
                  have e : k = 226 := by omega
                  subst e
                  exact mr_I_226
