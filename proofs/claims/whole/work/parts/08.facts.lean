theorem s_0 : sh 0 = some (.inr 11) := by decide +kernel
theorem s_1 : sh 1 = some (.inr 10) := by decide +kernel
theorem s_2 : sh 2 = some (.inl (2, 1000)) := by decide +kernel
theorem s_3 : sh 3 = some (.inr 5) := by decide +kernel
theorem s_4 : sh 4 = some (.inl (4, 6)) := by decide +kernel
theorem s_5 : sh 5 = some (.inl (5, 7)) := by decide +kernel
theorem s_6 : sh 6 = some (.inr 1) := by decide +kernel
theorem s_7 : sh 7 = some (.inl (0, 4)) := by decide +kernel
theorem s_8 : sh 8 = some (.inr 1) := by decide +kernel
theorem s_9 : sh 9 = some (.inl (0, 4)) := by decide +kernel
theorem s_10 : sh 10 = some (.inr 1) := by decide +kernel
theorem s_11 : sh 11 = some (.inl (0, 4)) := by decide +kernel
theorem s_12 : sh 12 = some (.inr 1) := by decide +kernel
theorem s_13 : sh 13 = some (.inl (0, 4)) := by decide +kernel
theorem s_14 : sh 14 = some (.inr 1) := by decide +kernel
theorem s_15 : sh 15 = some (.inl (0, 4)) := by decide +kernel
theorem s_16 : sh 16 = some (.inr 1) := by decide +kernel
theorem s_17 : sh 17 = some (.inl (0, 4)) := by decide +kernel
theorem s_18 : sh 18 = some (.inr 2) := by decide +kernel
theorem s_19 : sh 19 = some (.inl (0, 6)) := by decide +kernel
theorem s_20 : sh 20 = some (.inl (0, 6)) := by decide +kernel
theorem s_21 : sh 21 = some (.inr 2) := by decide +kernel
theorem s_22 : sh 22 = some (.inl (0, 6)) := by decide +kernel
theorem s_23 : sh 23 = some (.inl (0, 6)) := by decide +kernel
theorem s_24 : sh 24 = some (.inr 2) := by decide +kernel
theorem s_25 : sh 25 = some (.inl (0, 6)) := by decide +kernel
theorem s_26 : sh 26 = some (.inl (0, 6)) := by decide +kernel
theorem s_27 : sh 27 = some (.inr 2) := by decide +kernel
theorem s_28 : sh 28 = some (.inl (0, 6)) := by decide +kernel
theorem s_29 : sh 29 = some (.inl (0, 6)) := by decide +kernel
theorem s_30 : sh 30 = some (.inr 2) := by decide +kernel
theorem s_31 : sh 31 = some (.inl (0, 6)) := by decide +kernel
theorem s_32 : sh 32 = some (.inl (0, 6)) := by decide +kernel
theorem s_33 : sh 33 = some (.inr 2) := by decide +kernel
theorem s_34 : sh 34 = some (.inl (0, 6)) := by decide +kernel
theorem s_35 : sh 35 = some (.inl (0, 6)) := by decide +kernel
theorem s_36 : sh 36 = some (.inr 2) := by decide +kernel
theorem s_37 : sh 37 = some (.inl (0, 6)) := by decide +kernel
theorem s_38 : sh 38 = some (.inl (0, 6)) := by decide +kernel
theorem s_39 : sh 39 = some (.inr 5) := by decide +kernel
theorem s_40 : sh 40 = some (.inl (4, 6)) := by decide +kernel
theorem s_41 : sh 41 = some (.inl (5, 7)) := by decide +kernel
theorem s_42 : sh 42 = some (.inr 1) := by decide +kernel
theorem s_43 : sh 43 = some (.inl (0, 4)) := by decide +kernel
theorem s_44 : sh 44 = some (.inr 1) := by decide +kernel
theorem s_45 : sh 45 = some (.inl (0, 4)) := by decide +kernel
theorem s_46 : sh 46 = some (.inr 1) := by decide +kernel
theorem s_47 : sh 47 = some (.inl (0, 4)) := by decide +kernel
theorem s_48 : sh 48 = some (.inr 1) := by decide +kernel
theorem s_49 : sh 49 = some (.inl (0, 4)) := by decide +kernel
theorem s_50 : sh 50 = some (.inr 1) := by decide +kernel
theorem s_51 : sh 51 = some (.inl (0, 4)) := by decide +kernel
theorem s_52 : sh 52 = some (.inr 1) := by decide +kernel
theorem s_53 : sh 53 = some (.inl (0, 4)) := by decide +kernel
theorem s_54 : sh 54 = some (.inr 2) := by decide +kernel
theorem s_55 : sh 55 = some (.inl (0, 6)) := by decide +kernel
theorem s_56 : sh 56 = some (.inl (0, 6)) := by decide +kernel
theorem s_57 : sh 57 = some (.inr 2) := by decide +kernel
theorem s_58 : sh 58 = some (.inl (0, 6)) := by decide +kernel
theorem s_59 : sh 59 = some (.inl (0, 6)) := by decide +kernel
theorem s_60 : sh 60 = some (.inr 2) := by decide +kernel
theorem s_61 : sh 61 = some (.inl (0, 6)) := by decide +kernel
theorem s_62 : sh 62 = some (.inl (0, 6)) := by decide +kernel
theorem s_63 : sh 63 = some (.inr 2) := by decide +kernel
theorem s_64 : sh 64 = some (.inl (0, 6)) := by decide +kernel
theorem s_65 : sh 65 = some (.inl (0, 6)) := by decide +kernel
theorem s_66 : sh 66 = some (.inr 2) := by decide +kernel
theorem s_67 : sh 67 = some (.inl (0, 6)) := by decide +kernel
theorem s_68 : sh 68 = some (.inl (0, 6)) := by decide +kernel
theorem s_69 : sh 69 = some (.inr 2) := by decide +kernel
theorem s_70 : sh 70 = some (.inl (0, 6)) := by decide +kernel
theorem s_71 : sh 71 = some (.inl (0, 6)) := by decide +kernel
theorem s_72 : sh 72 = some (.inr 2) := by decide +kernel
theorem s_73 : sh 73 = some (.inl (0, 6)) := by decide +kernel
theorem s_74 : sh 74 = some (.inl (0, 6)) := by decide +kernel
theorem s_75 : sh 75 = some (.inr 7) := by decide +kernel
theorem s_76 : sh 76 = some (.inl (0, 6)) := by decide +kernel
theorem s_77 : sh 77 = some (.inl (0, 6)) := by decide +kernel
theorem s_78 : sh 78 = some (.inl (0, 6)) := by decide +kernel
theorem s_79 : sh 79 = some (.inl (0, 6)) := by decide +kernel
theorem s_80 : sh 80 = some (.inl (0, 6)) := by decide +kernel
theorem s_81 : sh 81 = some (.inl (0, 6)) := by decide +kernel
theorem s_82 : sh 82 = some (.inl (0, 4)) := by decide +kernel
theorem s_83 : sh 83 = some (.inl (0, 4)) := by decide +kernel
theorem s_84 : sh 84 = some (.inl (0, 4)) := by decide +kernel
theorem s_85 : sh 85 = some (.inl (6, 4)) := by decide +kernel
theorem s_86 : sh 86 = some (.inr 7) := by decide +kernel
theorem s_87 : sh 87 = some (.inl (0, 6)) := by decide +kernel
theorem s_88 : sh 88 = some (.inl (0, 6)) := by decide +kernel
theorem s_89 : sh 89 = some (.inl (0, 6)) := by decide +kernel
theorem s_90 : sh 90 = some (.inl (0, 6)) := by decide +kernel
theorem s_91 : sh 91 = some (.inl (0, 6)) := by decide +kernel
theorem s_92 : sh 92 = some (.inl (0, 6)) := by decide +kernel
theorem s_93 : sh 93 = some (.inl (0, 4)) := by decide +kernel
theorem s_94 : sh 94 = some (.inl (0, 4)) := by decide +kernel
theorem s_95 : sh 95 = some (.inl (0, 4)) := by decide +kernel
theorem s_96 : sh 96 = some (.inr 7) := by decide +kernel
theorem s_97 : sh 97 = some (.inl (0, 6)) := by decide +kernel
theorem s_98 : sh 98 = some (.inl (0, 6)) := by decide +kernel
theorem s_99 : sh 99 = some (.inl (0, 6)) := by decide +kernel
theorem s_100 : sh 100 = some (.inl (0, 6)) := by decide +kernel
theorem s_101 : sh 101 = some (.inl (0, 6)) := by decide +kernel
theorem s_102 : sh 102 = some (.inl (0, 6)) := by decide +kernel
theorem s_103 : sh 103 = some (.inl (0, 4)) := by decide +kernel
theorem s_104 : sh 104 = some (.inl (0, 4)) := by decide +kernel
theorem s_105 : sh 105 = some (.inl (0, 4)) := by decide +kernel
theorem s_106 : sh 106 = some (.inr 7) := by decide +kernel
theorem s_107 : sh 107 = some (.inl (0, 6)) := by decide +kernel
theorem s_108 : sh 108 = some (.inl (0, 6)) := by decide +kernel
theorem s_109 : sh 109 = some (.inl (0, 6)) := by decide +kernel
theorem s_110 : sh 110 = some (.inl (0, 6)) := by decide +kernel
theorem s_111 : sh 111 = some (.inl (0, 6)) := by decide +kernel
theorem s_112 : sh 112 = some (.inl (0, 6)) := by decide +kernel
theorem s_113 : sh 113 = some (.inl (0, 4)) := by decide +kernel
theorem s_114 : sh 114 = some (.inl (0, 4)) := by decide +kernel
theorem s_115 : sh 115 = some (.inl (0, 4)) := by decide +kernel
theorem s_116 : sh 116 = some (.inr 7) := by decide +kernel
theorem s_117 : sh 117 = some (.inl (0, 6)) := by decide +kernel
theorem s_118 : sh 118 = some (.inl (0, 6)) := by decide +kernel
theorem s_119 : sh 119 = some (.inl (0, 6)) := by decide +kernel
theorem s_120 : sh 120 = some (.inl (0, 6)) := by decide +kernel
theorem s_121 : sh 121 = some (.inl (0, 6)) := by decide +kernel
theorem s_122 : sh 122 = some (.inl (0, 6)) := by decide +kernel
theorem s_123 : sh 123 = some (.inl (0, 4)) := by decide +kernel
theorem s_124 : sh 124 = some (.inl (0, 4)) := by decide +kernel
theorem s_125 : sh 125 = some (.inl (0, 4)) := by decide +kernel
theorem s_126 : sh 126 = some (.inr 9) := by decide +kernel
theorem s_127 : sh 127 = some (.inr 8) := by decide +kernel
theorem s_128 : sh 128 = some (.inr 6) := by decide +kernel
theorem s_129 : sh 129 = some (.inl (0, 4)) := by decide +kernel
theorem s_130 : sh 130 = some (.inr 8) := by decide +kernel
theorem s_131 : sh 131 = some (.inl (0, 4)) := by decide +kernel
theorem s_132 : sh 132 = some (.inr 8) := by decide +kernel
theorem s_133 : sh 133 = some (.inr 4) := by decide +kernel
theorem s_134 : sh 134 = some (.inr 3) := by decide +kernel
theorem s_135 : sh 135 = some (.inl (3, 64)) := by decide +kernel
theorem s_136 : sh 136 = some (.inl (0, 64)) := by decide +kernel
theorem s_137 : sh 137 = some (.inr 0) := by decide +kernel
theorem s_138 : sh 138 = some (.inl (7, 7)) := by decide +kernel
theorem s_139 : sh 139 = some (.inl (0, 7)) := by decide +kernel
theorem s_140 : sh 140 = some (.inl (0, 7)) := by decide +kernel
theorem s_141 : sh 141 = some (.inl (0, 7)) := by decide +kernel
theorem s_142 : sh 142 = some (.inl (0, 7)) := by decide +kernel
theorem s_143 : sh 143 = some (.inl (0, 7)) := by decide +kernel
theorem s_144 : sh 144 = some (.inl (0, 7)) := by decide +kernel
theorem s_145 : sh 145 = some (.inl (0, 7)) := by decide +kernel
theorem s_146 : sh 146 = some (.inl (0, 128)) := by decide +kernel
theorem s_147 : sh 147 = some (.inr 12) := by decide +kernel
theorem s_148 : sh 148 = some (.inl (0, 1000)) := by decide +kernel
theorem s_149 : sh 149 = some (.inl (0, 1002)) := by decide +kernel
theorem s_150 : sh 150 = some (.inl (0, 1002)) := by decide +kernel
theorem s_151 : sh 151 = some (.inl (1, 1002)) := by decide +kernel
theorem s_152 : sh 152 = some (.inl (1, 16)) := by decide +kernel
theorem s_153 : sh 153 = some (.inl (0, 660)) := by decide +kernel
theorem s_154 : sh 154 = some (.inl (0, 240)) := by decide +kernel
theorem s_155 : sh 155 = some (.inl (1, 13)) := by decide +kernel
theorem s_156 : sh 156 = some (.inl (3, 4)) := by decide +kernel
theorem s_157 : sh 157 = some (.inl (0, 7)) := by decide +kernel
theorem s_158 : sh 158 = some (.inl (0, 7)) := by decide +kernel
theorem s_159 : sh 159 = some (.inl (3, 64)) := by decide +kernel
theorem s_160 : sh 160 = some (.inl (0, 64)) := by decide +kernel
theorem s_161 : sh 161 = some (.inl (1, 1)) := by decide +kernel
theorem vp_lt {i : Int32} {n : Nat} (h : vp_in i n) : i.toNatClampNeg < n := Nat.not_le.mp fun q => h (Or.inr q)
theorem shc {c : Nat} (h : c = 3 ∨ c = 39) : sh c = some (.inr 5) := by rcases h with rfl | rfl <;> decide +kernel
theorem shs {c : Nat} (h : c = 3 ∨ c = 39) : sh (42 - c) = some (.inr 5) := by rcases h with rfl | rfl <;> decide +kernel
theorem nzb {x : Int32} (h : x = 0 ∨ x = 1) : narrow .boolean (.int x) = .int x := by rcases h with rfl | rfl <;> rfl
theorem sr_X0_0 {o : Nat} (h : sh o = some (.inr 0)) : sh (o + 1) = some (.inl (7, 7)) := (by decide +kernel : ∀ o, o < 162 → sh o = some (.inr 0) → sh (o + 1) = some (.inl (7, 7))) o (sh_lt h) h
theorem rr_X0_0 {c o : Nat} (h : sh o = some (.inr 0)) : RF c o 0 = some (o + 1) := by
  unfold RF
  rw [h]
  rfl
theorem sr_X0_1 {o : Nat} (h : sh o = some (.inr 0)) : sh (o + 9) = some (.inl (0, 128)) := (by decide +kernel : ∀ o, o < 162 → sh o = some (.inr 0) → sh (o + 9) = some (.inl (0, 128))) o (sh_lt h) h
theorem rr_X0_1 {c o : Nat} (h : sh o = some (.inr 0)) : RF c o 1 = some (o + 9) := by
  unfold RF
  rw [h]
  rfl
theorem sr_X1_2 {o : Nat} (h : sh o = some (.inr 1)) : sh (o + 1) = some (.inl (0, 4)) := (by decide +kernel : ∀ o, o < 162 → sh o = some (.inr 1) → sh (o + 1) = some (.inl (0, 4))) o (sh_lt h) h
theorem rr_X1_2 {c o : Nat} (h : sh o = some (.inr 1)) : RF c o 2 = some (o + 1) := by
  unfold RF
  rw [h]
  rfl
theorem sr_X2_4 {o : Nat} (h : sh o = some (.inr 2)) : sh (o + 1) = some (.inl (0, 6)) := (by decide +kernel : ∀ o, o < 162 → sh o = some (.inr 2) → sh (o + 1) = some (.inl (0, 6))) o (sh_lt h) h
theorem rr_X2_4 {c o : Nat} (h : sh o = some (.inr 2)) : RF c o 4 = some (o + 1) := by
  unfold RF
  rw [h]
  rfl
theorem sr_X2_5 {o : Nat} (h : sh o = some (.inr 2)) : sh (o + 2) = some (.inl (0, 6)) := (by decide +kernel : ∀ o, o < 162 → sh o = some (.inr 2) → sh (o + 2) = some (.inl (0, 6))) o (sh_lt h) h
theorem rr_X2_5 {c o : Nat} (h : sh o = some (.inr 2)) : RF c o 5 = some (o + 2) := by
  unfold RF
  rw [h]
  rfl
theorem sr_X3_0 {o : Nat} (h : sh o = some (.inr 3)) : sh (o + 1) = some (.inl (3, 64)) := (by decide +kernel : ∀ o, o < 162 → sh o = some (.inr 3) → sh (o + 1) = some (.inl (3, 64))) o (sh_lt h) h
theorem rr_X3_0 {c o : Nat} (h : sh o = some (.inr 3)) : RF c o 0 = some (o + 1) := by
  unfold RF
  rw [h]
  rfl
theorem sr_X3_1 {o : Nat} (h : sh o = some (.inr 3)) : sh (o + 2) = some (.inl (0, 64)) := (by decide +kernel : ∀ o, o < 162 → sh o = some (.inr 3) → sh (o + 2) = some (.inl (0, 64))) o (sh_lt h) h
theorem rr_X3_1 {c o : Nat} (h : sh o = some (.inr 3)) : RF c o 1 = some (o + 2) := by
  unfold RF
  rw [h]
  rfl
theorem sr_X5_0 {o : Nat} (h : sh o = some (.inr 5)) : sh (o + 1) = some (.inl (4, 6)) := (by decide +kernel : ∀ o, o < 162 → sh o = some (.inr 5) → sh (o + 1) = some (.inl (4, 6))) o (sh_lt h) h
theorem rr_X5_0 {c o : Nat} (h : sh o = some (.inr 5)) : RF c o 0 = some (o + 1) := by
  unfold RF
  rw [h]
  rfl
theorem sr_X5_1 {o : Nat} (h : sh o = some (.inr 5)) : sh (o + 2) = some (.inl (5, 7)) := (by decide +kernel : ∀ o, o < 162 → sh o = some (.inr 5) → sh (o + 2) = some (.inl (5, 7))) o (sh_lt h) h
theorem rr_X5_1 {c o : Nat} (h : sh o = some (.inr 5)) : RF c o 1 = some (o + 2) := by
  unfold RF
  rw [h]
  rfl
theorem sr_X6_0 {o : Nat} (h : sh o = some (.inr 6)) : sh (o + 1) = some (.inl (0, 4)) := (by decide +kernel : ∀ o, o < 162 → sh o = some (.inr 6) → sh (o + 1) = some (.inl (0, 4))) o (sh_lt h) h
theorem rr_X6_0 {c o : Nat} (h : sh o = some (.inr 6)) : RF c o 0 = some (o + 1) := by
  unfold RF
  rw [h]
  rfl
theorem sr_X6_1 {o : Nat} (h : sh o = some (.inr 6)) : sh (o + 2) = some (.inr 8) := (by decide +kernel : ∀ o, o < 162 → sh o = some (.inr 6) → sh (o + 2) = some (.inr 8)) o (sh_lt h) h
theorem rr_X6_1 {c o : Nat} (h : sh o = some (.inr 6)) : RF c o 1 = some (o + 2) := by
  unfold RF
  rw [h]
  rfl
theorem sr_X6_2 {o : Nat} (h : sh o = some (.inr 6)) : sh (o + 3) = some (.inl (0, 4)) := (by decide +kernel : ∀ o, o < 162 → sh o = some (.inr 6) → sh (o + 3) = some (.inl (0, 4))) o (sh_lt h) h
theorem rr_X6_2 {c o : Nat} (h : sh o = some (.inr 6)) : RF c o 2 = some (o + 3) := by
  unfold RF
  rw [h]
  rfl
theorem sr_X6_3 {o : Nat} (h : sh o = some (.inr 6)) : sh (o + 4) = some (.inr 8) := (by decide +kernel : ∀ o, o < 162 → sh o = some (.inr 6) → sh (o + 4) = some (.inr 8)) o (sh_lt h) h
theorem rr_X6_3 {c o : Nat} (h : sh o = some (.inr 6)) : RF c o 3 = some (o + 4) := by
  unfold RF
  rw [h]
  rfl
theorem sr_X7_0 {o : Nat} (h : sh o = some (.inr 7)) : sh (o + 1) = some (.inl (0, 6)) := (by decide +kernel : ∀ o, o < 162 → sh o = some (.inr 7) → sh (o + 1) = some (.inl (0, 6))) o (sh_lt h) h
theorem rr_X7_0 {c o : Nat} (h : sh o = some (.inr 7)) : RF c o 0 = some (o + 1) := by
  unfold RF
  rw [h]
  rfl
theorem sr_X7_1 {o : Nat} (h : sh o = some (.inr 7)) : sh (o + 2) = some (.inl (0, 6)) := (by decide +kernel : ∀ o, o < 162 → sh o = some (.inr 7) → sh (o + 2) = some (.inl (0, 6))) o (sh_lt h) h
theorem rr_X7_1 {c o : Nat} (h : sh o = some (.inr 7)) : RF c o 1 = some (o + 2) := by
  unfold RF
  rw [h]
  rfl
theorem sr_X7_2 {o : Nat} (h : sh o = some (.inr 7)) : sh (o + 3) = some (.inl (0, 6)) := (by decide +kernel : ∀ o, o < 162 → sh o = some (.inr 7) → sh (o + 3) = some (.inl (0, 6))) o (sh_lt h) h
theorem rr_X7_2 {c o : Nat} (h : sh o = some (.inr 7)) : RF c o 2 = some (o + 3) := by
  unfold RF
  rw [h]
  rfl
theorem sr_X7_3 {o : Nat} (h : sh o = some (.inr 7)) : sh (o + 4) = some (.inl (0, 6)) := (by decide +kernel : ∀ o, o < 162 → sh o = some (.inr 7) → sh (o + 4) = some (.inl (0, 6))) o (sh_lt h) h
theorem rr_X7_3 {c o : Nat} (h : sh o = some (.inr 7)) : RF c o 3 = some (o + 4) := by
  unfold RF
  rw [h]
  rfl
theorem sr_X7_4 {o : Nat} (h : sh o = some (.inr 7)) : sh (o + 5) = some (.inl (0, 6)) := (by decide +kernel : ∀ o, o < 162 → sh o = some (.inr 7) → sh (o + 5) = some (.inl (0, 6))) o (sh_lt h) h
theorem rr_X7_4 {c o : Nat} (h : sh o = some (.inr 7)) : RF c o 4 = some (o + 5) := by
  unfold RF
  rw [h]
  rfl
theorem sr_X7_5 {o : Nat} (h : sh o = some (.inr 7)) : sh (o + 6) = some (.inl (0, 6)) := (by decide +kernel : ∀ o, o < 162 → sh o = some (.inr 7) → sh (o + 6) = some (.inl (0, 6))) o (sh_lt h) h
theorem rr_X7_5 {c o : Nat} (h : sh o = some (.inr 7)) : RF c o 5 = some (o + 6) := by
  unfold RF
  rw [h]
  rfl
theorem sr_X7_6 {o : Nat} (h : sh o = some (.inr 7)) : sh (o + 7) = some (.inl (0, 4)) := (by decide +kernel : ∀ o, o < 162 → sh o = some (.inr 7) → sh (o + 7) = some (.inl (0, 4))) o (sh_lt h) h
theorem rr_X7_6 {c o : Nat} (h : sh o = some (.inr 7)) : RF c o 6 = some (o + 7) := by
  unfold RF
  rw [h]
  rfl
theorem sr_X7_8 {o : Nat} (h : sh o = some (.inr 7)) : sh (o + 8) = some (.inl (0, 4)) := (by decide +kernel : ∀ o, o < 162 → sh o = some (.inr 7) → sh (o + 8) = some (.inl (0, 4))) o (sh_lt h) h
theorem rr_X7_8 {c o : Nat} (h : sh o = some (.inr 7)) : RF c o 8 = some (o + 8) := by
  unfold RF
  rw [h]
  rfl
theorem sr_X7_9 {o : Nat} (h : sh o = some (.inr 7)) : sh (o + 9) = some (.inl (0, 4)) := (by decide +kernel : ∀ o, o < 162 → sh o = some (.inr 7) → sh (o + 9) = some (.inl (0, 4))) o (sh_lt h) h
theorem rr_X7_9 {c o : Nat} (h : sh o = some (.inr 7)) : RF c o 9 = some (o + 9) := by
  unfold RF
  rw [h]
  rfl
theorem sr_X10_1 {o : Nat} (h : sh o = some (.inr 10)) : sh (o + 1) = some (.inl (2, 1000)) := (by decide +kernel : ∀ o, o < 162 → sh o = some (.inr 10) → sh (o + 1) = some (.inl (2, 1000))) o (sh_lt h) h
theorem rr_X10_1 {c o : Nat} (h : sh o = some (.inr 10)) : RF c o 1 = some (o + 1) := by
  unfold RF
  rw [h]
  rfl
theorem rr_X11_0 {c o : Nat} (h : sh o = some (.inr 11)) : RF c o 0 = some 1 := by
  unfold RF
  rw [h]
  rfl
theorem rr_X11_1 {c o : Nat} (h : sh o = some (.inr 11)) : RF c o 1 = some c := by
  unfold RF
  rw [h]
  rfl
theorem rr_X11_2 {c o : Nat} (h : sh o = some (.inr 11)) : RF c o 2 = some (42 - c) := by
  unfold RF
  rw [h]
  rfl
theorem rr_X11_3 {c o : Nat} (h : sh o = some (.inr 11)) : RF c o 3 = some 75 := by
  unfold RF
  rw [h]
  rfl
theorem rr_X11_4 {c o : Nat} (h : sh o = some (.inr 11)) : RF c o 4 = some 85 := by
  unfold RF
  rw [h]
  rfl
theorem rr_X11_6 {c o : Nat} (h : sh o = some (.inr 11)) : RF c o 6 = some 126 := by
  unfold RF
  rw [h]
  rfl
theorem rr_X11_7 {c o : Nat} (h : sh o = some (.inr 11)) : RF c o 7 = some 127 := by
  unfold RF
  rw [h]
  rfl
theorem rr_X11_8 {c o : Nat} (h : sh o = some (.inr 11)) : RF c o 8 = some 128 := by
  unfold RF
  rw [h]
  rfl
theorem rr_X11_9 {c o : Nat} (h : sh o = some (.inr 11)) : RF c o 9 = some 133 := by
  unfold RF
  rw [h]
  rfl
theorem rr_X11_10 {c o : Nat} (h : sh o = some (.inr 11)) : RF c o 10 = some 134 := by
  unfold RF
  rw [h]
  rfl
theorem rr_X11_11 {c o : Nat} (h : sh o = some (.inr 11)) : RF c o 11 = some 137 := by
  unfold RF
  rw [h]
  rfl
theorem rr_X12_1 {c o : Nat} (h : sh o = some (.inr 12)) : RF c o 1 = some 148 := by
  unfold RF
  rw [h]
  rfl
theorem rr_X12_4 {c o : Nat} (h : sh o = some (.inr 12)) : RF c o 4 = some 149 := by
  unfold RF
  rw [h]
  rfl
theorem rr_X12_5 {c o : Nat} (h : sh o = some (.inr 12)) : RF c o 5 = some 150 := by
  unfold RF
  rw [h]
  rfl
theorem rr_X12_6 {c o : Nat} (h : sh o = some (.inr 12)) : RF c o 6 = some 151 := by
  unfold RF
  rw [h]
  rfl
theorem rr_X12_9 {c o : Nat} (h : sh o = some (.inr 12)) : RF c o 9 = some 152 := by
  unfold RF
  rw [h]
  rfl
theorem rr_X12_10 {c o : Nat} (h : sh o = some (.inr 12)) : RF c o 10 = some 153 := by
  unfold RF
  rw [h]
  rfl
theorem rr_X12_11 {c o : Nat} (h : sh o = some (.inr 12)) : RF c o 11 = some 154 := by
  unfold RF
  rw [h]
  rfl
theorem rr_X12_12 {c o : Nat} (h : sh o = some (.inr 12)) : RF c o 12 = some 155 := by
  unfold RF
  rw [h]
  rfl
theorem rr_X12_14 {c o : Nat} (h : sh o = some (.inr 12)) : RF c o 14 = some 156 := by
  unfold RF
  rw [h]
  rfl
theorem rr_X12_23 {c o : Nat} (h : sh o = some (.inr 12)) : RF c o 23 = some 157 := by
  unfold RF
  rw [h]
  rfl
theorem rr_X12_24 {c o : Nat} (h : sh o = some (.inr 12)) : RF c o 24 = some 158 := by
  unfold RF
  rw [h]
  rfl
theorem rr_X12_27 {c o : Nat} (h : sh o = some (.inr 12)) : RF c o 27 = some 159 := by
  unfold RF
  rw [h]
  rfl
theorem rr_X12_28 {c o : Nat} (h : sh o = some (.inr 12)) : RF c o 28 = some 160 := by
  unfold RF
  rw [h]
  rfl
theorem re_4 {c o n i : Nat} (h : sh o = some (.inl (4, n))) : RF c o i = some (o + 2 + 2 * i) := by
  unfold RF
  rw [h]
  rfl
theorem se_4 {o i : Nat} (h : sh o = some (.inl (4, 6))) (hi : i < 6) : sh (o + 2 + 2 * i) = some (.inr 1) := by
  have k : ((List.range 162).all fun o => (List.range 6).all fun i => decide (sh o = some (.inl (4, 6)) → sh (o + 2 + 2 * i) = some (.inr 1))) = true := by decide +kernel
  exact of_decide_eq_true (List.all_eq_true.mp (List.all_eq_true.mp k o (List.mem_range.mpr (sh_lt h))) i (List.mem_range.mpr hi)) h
theorem re_5 {c o n i : Nat} (h : sh o = some (.inl (5, n))) : RF c o i = some (o + 13 + 3 * i) := by
  unfold RF
  rw [h]
  rfl
theorem se_5 {o i : Nat} (h : sh o = some (.inl (5, 7))) (hi : i < 7) : sh (o + 13 + 3 * i) = some (.inr 2) := by
  have k : ((List.range 162).all fun o => (List.range 7).all fun i => decide (sh o = some (.inl (5, 7)) → sh (o + 13 + 3 * i) = some (.inr 2))) = true := by decide +kernel
  exact of_decide_eq_true (List.all_eq_true.mp (List.all_eq_true.mp k o (List.mem_range.mpr (sh_lt h))) i (List.mem_range.mpr hi)) h
theorem re_6 {c o n i : Nat} (h : sh o = some (.inl (6, n))) : RF c o i = some (o + 1 + 10 * i) := by
  unfold RF
  rw [h]
  rfl
theorem se_6 {o i : Nat} (h : sh o = some (.inl (6, 4))) (hi : i < 4) : sh (o + 1 + 10 * i) = some (.inr 7) := by
  have k : ((List.range 162).all fun o => (List.range 4).all fun i => decide (sh o = some (.inl (6, 4)) → sh (o + 1 + 10 * i) = some (.inr 7))) = true := by decide +kernel
  exact of_decide_eq_true (List.all_eq_true.mp (List.all_eq_true.mp k o (List.mem_range.mpr (sh_lt h))) i (List.mem_range.mpr hi)) h
theorem re_7 {c o n i : Nat} (h : sh o = some (.inl (7, n))) : RF c o i = some (o + 1 + i) := by
  unfold RF
  rw [h]
  rfl
theorem se_7 {o i : Nat} (h : sh o = some (.inl (7, 7))) (hi : i < 7) : sh (o + 1 + i) = some (.inl (0, 7)) := by
  have k : ((List.range 162).all fun o => (List.range 7).all fun i => decide (sh o = some (.inl (7, 7)) → sh (o + 1 + i) = some (.inl (0, 7)))) = true := by decide +kernel
  exact of_decide_eq_true (List.all_eq_true.mp (List.all_eq_true.mp k o (List.mem_range.mpr (sh_lt h))) i (List.mem_range.mpr hi)) h
section
variable {G : MG} {Y Z : MY} {d : Nat} {Q : Option Value → Mm → Prop} {ce sl pc : Nat} {lv : List (Nat × Value)} {st : List Value} {M : Mm}
theorem tu_putI {c idx ci k o : Nat} {x : Int32} (hf : fOK Y.y.cls idx ci k) (hL : Lay c M) (hs : sh o = some (.inr ci)) (hfin : fFin ci k = false) (ht : tyc ci k = .int) (hd : decode Y.cc pc = .ok (.putfield idx, 3)) (kk : ∀ N, N = sI M o k x → Lay c N → T G Y d Q ce sl (pc + 3) lv st N) : T G Y d Q ce sl pc lv (.int x :: .ref (G.b + o) :: st) M := tw_putI hf hL hs hfin ht hd (kk _ rfl (hL.to rfl))
theorem tu_putZ {c idx ci k o : Nat} {x : Int32} (hf : fOK Y.y.cls idx ci k) (hL : Lay c M) (hs : sh o = some (.inr ci)) (hfin : fFin ci k = false) (ht : tyc ci k = .boolean) (hx : x = 0 ∨ x = 1) (hd : decode Y.cc pc = .ok (.putfield idx, 3)) (kk : ∀ N, N = sI M o k x → Lay c N → T G Y d Q ce sl (pc + 3) lv st N) : T G Y d Q ce sl pc lv (.int x :: .ref (G.b + o) :: st) M := tw_putZ hf hL hs hfin ht hx hd (kk _ rfl (hL.to rfl))
theorem tu_putJ {c idx ci k o : Nat} {x : Int64} (hf : fOK Y.y.cls idx ci k) (hL : Lay c M) (hs : sh o = some (.inr ci)) (hfin : fFin ci k = false) (ht : tyc ci k = .long) (hd : decode Y.cc pc = .ok (.putfield idx, 3)) (kk : ∀ N, N = sJ M o k x → Lay c N → T G Y d Q ce sl (pc + 3) lv st N) : T G Y d Q ce sl pc lv (.long x :: .ref (G.b + o) :: st) M := tw_putJ hf hL hs hfin ht hd (kk _ rfl (hL.to rfl))
theorem tu_iast {c o n : Nat} {i : Int32} {x : Int32} (hL : Lay c M) (hs : sh o = some (.inl (0, n))) (hd : decode Y.cc pc = .ok (.iastore, 1)) (hin : vp_in i n) (kk : ∀ N, N = sI M o i.toNatClampNeg x → Lay c N → T G Y d Q ce sl (pc + 1) lv st N) : T G Y d Q ce sl pc lv (.int x :: .int i :: .ref (G.b + o) :: st) M := tw_iast hL hs hd hin (kk _ rfl (hL.to rfl))
theorem tu_last {c o n : Nat} {i : Int32} {x : Int64} (hL : Lay c M) (hs : sh o = some (.inl (1, n))) (hd : decode Y.cc pc = .ok (.lastore, 1)) (hin : vp_in i n) (kk : ∀ N, N = sJ M o i.toNatClampNeg x → Lay c N → T G Y d Q ce sl (pc + 1) lv st N) : T G Y d Q ce sl pc lv (.long x :: .int i :: .ref (G.b + o) :: st) M := tw_last hL hs hd hin (kk _ rfl (hL.to rfl))
theorem tu_cast {c o n : Nat} {i : Int32} {x : Int32} (hL : Lay c M) (hs : sh o = some (.inl (2, n))) (hd : decode Y.cc pc = .ok (.castore, 1)) (hin : vp_in i n) (kk : ∀ N, N = sI M o i.toNatClampNeg (vp_nar .char x) → Lay c N → T G Y d Q ce sl (pc + 1) lv st N) : T G Y d Q ce sl pc lv (.int x :: .int i :: .ref (G.b + o) :: st) M := tw_cast hL hs hd hin (kk _ rfl (hL.to rfl))
theorem tu_zast {c o n : Nat} {i : Int32} {x : Int32} (hL : Lay c M) (hs : sh o = some (.inl (3, n))) (hd : decode Y.cc pc = .ok (.bastore, 1)) (hin : vp_in i n) (kk : ∀ N, N = sI M o i.toNatClampNeg (vp_nar .boolean x) → Lay c N → T G Y d Q ce sl (pc + 1) lv st N) : T G Y d Q ce sl pc lv (.int x :: .int i :: .ref (G.b + o) :: st) M := tw_zast hL hs hd hin (kk _ rfl (hL.to rfl))
theorem tu_cVi {c idx ci o n : Nat} {As : List Value} {Q' : Int32 → Mm → Prop} (cw : cvOK Y.y.cls idx ci n Z) (hL : Lay c M) (hs : sh o = some (.inr ci)) (hn : As.length = n) (hst : (st.map fun v => v.category).sum ≤ 8) (hz : ce ≤ Y.mc ∧ sl ≤ Y.ms) (hd : decode Y.cc pc = .ok (.invokevirtual idx, 3)) (hC : C G Z d (.ref (G.b + o) :: As) M (Ri Q')) (kk : ∀ (v : Int32) N, Q' v N → T G Y (d + 1) Q ce sl (pc + 3) lv (.int v :: st) N) : T G Y (d + 1) Q ce sl pc lv (As.reverse ++ .ref (G.b + o) :: st) M := tw_callV cw hL hs hn hst hz hd hC (fun r N h => by obtain ⟨v, rfl, h2⟩ := h; exact kk v N h2)
theorem tu_cSi {idx n : Nat} {As : List Value} {Q' : Int32 → Mm → Prop} (cw : csOK Y.y.cls idx n Z) (hn : As.length = n) (hst : (st.map fun v => v.category).sum ≤ 8) (hz : ce ≤ Y.mc ∧ sl ≤ Y.ms) (hd : decode Y.cc pc = .ok (.invokestatic idx, 3)) (hC : C G Z d As M (Ri Q')) (kk : ∀ (v : Int32) N, Q' v N → T G Y (d + 1) Q ce sl (pc + 3) lv (.int v :: st) N) : T G Y (d + 1) Q ce sl pc lv (As.reverse ++ st) M := tw_callS cw hn hst hz hd hC (fun r N h => by obtain ⟨v, rfl, h2⟩ := h; exact kk v N h2)
theorem tu_cNi {idx n : Nat} {host : String} {As : List Value} {Q' : Int32 → Mm → Prop} (cw : cnOK n Z) (hN : ∀ U, G.X U → va_Nw (.methodLinkNest Y.y.cls idx Z.y host) U) (hn : As.length = n) (hst : (st.map fun v => v.category).sum ≤ 8) (hz : ce ≤ Y.mc ∧ sl ≤ Y.ms) (hd : decode Y.cc pc = .ok (.invokestatic idx, 3)) (hC : C G Z d As M (Ri Q')) (kk : ∀ (v : Int32) N, Q' v N → T G Y (d + 1) Q ce sl (pc + 3) lv (.int v :: st) N) : T G Y (d + 1) Q ce sl pc lv (As.reverse ++ st) M := tw_callN cw hN hn hst hz hd hC (fun r N h => by obtain ⟨v, rfl, h2⟩ := h; exact kk v N h2)
theorem tu_cVJ {c idx ci o n : Nat} {As : List Value} {Q' : Int64 → Mm → Prop} (cw : cvOK Y.y.cls idx ci n Z) (hL : Lay c M) (hs : sh o = some (.inr ci)) (hn : As.length = n) (hst : (st.map fun v => v.category).sum ≤ 8) (hz : ce ≤ Y.mc ∧ sl ≤ Y.ms) (hd : decode Y.cc pc = .ok (.invokevirtual idx, 3)) (hC : C G Z d (.ref (G.b + o) :: As) M (Rj Q')) (kk : ∀ (v : Int64) N, Q' v N → T G Y (d + 1) Q ce sl (pc + 3) lv (.long v :: st) N) : T G Y (d + 1) Q ce sl pc lv (As.reverse ++ .ref (G.b + o) :: st) M := tw_callV cw hL hs hn hst hz hd hC (fun r N h => by obtain ⟨v, rfl, h2⟩ := h; exact kk v N h2)
theorem tu_cSJ {idx n : Nat} {As : List Value} {Q' : Int64 → Mm → Prop} (cw : csOK Y.y.cls idx n Z) (hn : As.length = n) (hst : (st.map fun v => v.category).sum ≤ 8) (hz : ce ≤ Y.mc ∧ sl ≤ Y.ms) (hd : decode Y.cc pc = .ok (.invokestatic idx, 3)) (hC : C G Z d As M (Rj Q')) (kk : ∀ (v : Int64) N, Q' v N → T G Y (d + 1) Q ce sl (pc + 3) lv (.long v :: st) N) : T G Y (d + 1) Q ce sl pc lv (As.reverse ++ st) M := tw_callS cw hn hst hz hd hC (fun r N h => by obtain ⟨v, rfl, h2⟩ := h; exact kk v N h2)
theorem tu_cNJ {idx n : Nat} {host : String} {As : List Value} {Q' : Int64 → Mm → Prop} (cw : cnOK n Z) (hN : ∀ U, G.X U → va_Nw (.methodLinkNest Y.y.cls idx Z.y host) U) (hn : As.length = n) (hst : (st.map fun v => v.category).sum ≤ 8) (hz : ce ≤ Y.mc ∧ sl ≤ Y.ms) (hd : decode Y.cc pc = .ok (.invokestatic idx, 3)) (hC : C G Z d As M (Rj Q')) (kk : ∀ (v : Int64) N, Q' v N → T G Y (d + 1) Q ce sl (pc + 3) lv (.long v :: st) N) : T G Y (d + 1) Q ce sl pc lv (As.reverse ++ st) M := tw_callN cw hN hn hst hz hd hC (fun r N h => by obtain ⟨v, rfl, h2⟩ := h; exact kk v N h2)
theorem tu_cVv {c idx ci o n : Nat} {As : List Value} {Q' : Mm → Prop} (cw : cvOK Y.y.cls idx ci n Z) (hL : Lay c M) (hs : sh o = some (.inr ci)) (hn : As.length = n) (hst : (st.map fun v => v.category).sum ≤ 8) (hz : ce ≤ Y.mc ∧ sl ≤ Y.ms) (hd : decode Y.cc pc = .ok (.invokevirtual idx, 3)) (hC : C G Z d (.ref (G.b + o) :: As) M (Rv Q')) (kk : ∀ N, Q' N → T G Y (d + 1) Q ce sl (pc + 3) lv st N) : T G Y (d + 1) Q ce sl pc lv (As.reverse ++ .ref (G.b + o) :: st) M := tw_callV cw hL hs hn hst hz hd hC (fun r N h => by obtain ⟨rfl, h2⟩ := h; exact kk N h2)
theorem tu_cSv {idx n : Nat} {As : List Value} {Q' : Mm → Prop} (cw : csOK Y.y.cls idx n Z) (hn : As.length = n) (hst : (st.map fun v => v.category).sum ≤ 8) (hz : ce ≤ Y.mc ∧ sl ≤ Y.ms) (hd : decode Y.cc pc = .ok (.invokestatic idx, 3)) (hC : C G Z d As M (Rv Q')) (kk : ∀ N, Q' N → T G Y (d + 1) Q ce sl (pc + 3) lv st N) : T G Y (d + 1) Q ce sl pc lv (As.reverse ++ st) M := tw_callS cw hn hst hz hd hC (fun r N h => by obtain ⟨rfl, h2⟩ := h; exact kk N h2)
theorem tu_cNv {idx n : Nat} {host : String} {As : List Value} {Q' : Mm → Prop} (cw : cnOK n Z) (hN : ∀ U, G.X U → va_Nw (.methodLinkNest Y.y.cls idx Z.y host) U) (hn : As.length = n) (hst : (st.map fun v => v.category).sum ≤ 8) (hz : ce ≤ Y.mc ∧ sl ≤ Y.ms) (hd : decode Y.cc pc = .ok (.invokestatic idx, 3)) (hC : C G Z d As M (Rv Q')) (kk : ∀ N, Q' N → T G Y (d + 1) Q ce sl (pc + 3) lv st N) : T G Y (d + 1) Q ce sl pc lv (As.reverse ++ st) M := tw_callN cw hN hn hst hz hd hC (fun r N h => by obtain ⟨rfl, h2⟩ := h; exact kk N h2)
end
def cornX (i : Nat) : Int32 := [0, 10, 10, 0].getD i 0
def cornY (i : Nat) : Int32 := [0, 0, 10, 10].getD i 0
def digitT (i : Nat) : Int32 := [117649, 16807, 2401, 343, 49, 7, 1].getD i 0
theorem tab_out_0_9 {x : Int32} (h0 : ¬ x = 0) (h1 : ¬ x = 1) (h2 : ¬ x = 2) (h3 : ¬ x = 3) (h4 : ¬ x = 4) (h5 : ¬ x = 5) (h6 : ¬ x = 6) (h7 : ¬ x = 7) (h8 : ¬ x = 8) (h9 : ¬ x = 9) : x.toInt < 0 ∨ 9 < x.toInt := by
  rcases Int.lt_or_le x.toInt 0 with g1 | g1
  · exact Or.inl g1
  · rcases Int.lt_or_le 9 x.toInt with g2 | g2
    · exact Or.inr g2
    · exfalso
      rcases (show x.toInt = 0 ∨ x.toInt = 1 ∨ x.toInt = 2 ∨ x.toInt = 3 ∨ x.toInt = 4 ∨ x.toInt = 5 ∨ x.toInt = 6 ∨ x.toInt = 7 ∨ x.toInt = 8 ∨ x.toInt = 9 by omega) with q | q | q | q | q | q | q | q | q | q
      · exact h0 (Int32.toInt_inj.mp (q.trans (by decide)))
      · exact h1 (Int32.toInt_inj.mp (q.trans (by decide)))
      · exact h2 (Int32.toInt_inj.mp (q.trans (by decide)))
      · exact h3 (Int32.toInt_inj.mp (q.trans (by decide)))
      · exact h4 (Int32.toInt_inj.mp (q.trans (by decide)))
      · exact h5 (Int32.toInt_inj.mp (q.trans (by decide)))
      · exact h6 (Int32.toInt_inj.mp (q.trans (by decide)))
      · exact h7 (Int32.toInt_inj.mp (q.trans (by decide)))
      · exact h8 (Int32.toInt_inj.mp (q.trans (by decide)))
      · exact h9 (Int32.toInt_inj.mp (q.trans (by decide)))
theorem tab_out_0_3 {x : Int32} (h0 : ¬ x = 0) (h1 : ¬ x = 1) (h2 : ¬ x = 2) (h3 : ¬ x = 3) : x.toInt < 0 ∨ 3 < x.toInt := by
  rcases Int.lt_or_le x.toInt 0 with g1 | g1
  · exact Or.inl g1
  · rcases Int.lt_or_le 3 x.toInt with g2 | g2
    · exact Or.inr g2
    · exfalso
      rcases (show x.toInt = 0 ∨ x.toInt = 1 ∨ x.toInt = 2 ∨ x.toInt = 3 by omega) with q | q | q | q
      · exact h0 (Int32.toInt_inj.mp (q.trans (by decide)))
      · exact h1 (Int32.toInt_inj.mp (q.trans (by decide)))
      · exact h2 (Int32.toInt_inj.mp (q.trans (by decide)))
      · exact h3 (Int32.toInt_inj.mp (q.trans (by decide)))
theorem tab_out_0_4 {x : Int32} (h0 : ¬ x = 0) (h1 : ¬ x = 1) (h2 : ¬ x = 2) (h3 : ¬ x = 3) (h4 : ¬ x = 4) : x.toInt < 0 ∨ 4 < x.toInt := by
  rcases Int.lt_or_le x.toInt 0 with g1 | g1
  · exact Or.inl g1
  · rcases Int.lt_or_le 4 x.toInt with g2 | g2
    · exact Or.inr g2
    · exfalso
      rcases (show x.toInt = 0 ∨ x.toInt = 1 ∨ x.toInt = 2 ∨ x.toInt = 3 ∨ x.toInt = 4 by omega) with q | q | q | q | q
      · exact h0 (Int32.toInt_inj.mp (q.trans (by decide)))
      · exact h1 (Int32.toInt_inj.mp (q.trans (by decide)))
      · exact h2 (Int32.toInt_inj.mp (q.trans (by decide)))
      · exact h3 (Int32.toInt_inj.mp (q.trans (by decide)))
      · exact h4 (Int32.toInt_inj.mp (q.trans (by decide)))
theorem tab_out_0_25 {x : Int32} (h0 : ¬ x = 0) (h1 : ¬ x = 1) (h2 : ¬ x = 2) (h3 : ¬ x = 3) (h4 : ¬ x = 4) (h5 : ¬ x = 5) (h6 : ¬ x = 6) (h7 : ¬ x = 7) (h8 : ¬ x = 8) (h9 : ¬ x = 9) (h10 : ¬ x = 10) (h11 : ¬ x = 11) (h12 : ¬ x = 12) (h13 : ¬ x = 13) (h14 : ¬ x = 14) (h15 : ¬ x = 15) (h16 : ¬ x = 16) (h17 : ¬ x = 17) (h18 : ¬ x = 18) (h19 : ¬ x = 19) (h20 : ¬ x = 20) (h21 : ¬ x = 21) (h22 : ¬ x = 22) (h23 : ¬ x = 23) (h24 : ¬ x = 24) (h25 : ¬ x = 25) : x.toInt < 0 ∨ 25 < x.toInt := by
  rcases Int.lt_or_le x.toInt 0 with g1 | g1
  · exact Or.inl g1
  · rcases Int.lt_or_le 25 x.toInt with g2 | g2
    · exact Or.inr g2
    · exfalso
      rcases (show x.toInt = 0 ∨ x.toInt = 1 ∨ x.toInt = 2 ∨ x.toInt = 3 ∨ x.toInt = 4 ∨ x.toInt = 5 ∨ x.toInt = 6 ∨ x.toInt = 7 ∨ x.toInt = 8 ∨ x.toInt = 9 ∨ x.toInt = 10 ∨ x.toInt = 11 ∨ x.toInt = 12 ∨ x.toInt = 13 ∨ x.toInt = 14 ∨ x.toInt = 15 ∨ x.toInt = 16 ∨ x.toInt = 17 ∨ x.toInt = 18 ∨ x.toInt = 19 ∨ x.toInt = 20 ∨ x.toInt = 21 ∨ x.toInt = 22 ∨ x.toInt = 23 ∨ x.toInt = 24 ∨ x.toInt = 25 by omega) with q | q | q | q | q | q | q | q | q | q | q | q | q | q | q | q | q | q | q | q | q | q | q | q | q | q
      · exact h0 (Int32.toInt_inj.mp (q.trans (by decide)))
      · exact h1 (Int32.toInt_inj.mp (q.trans (by decide)))
      · exact h2 (Int32.toInt_inj.mp (q.trans (by decide)))
      · exact h3 (Int32.toInt_inj.mp (q.trans (by decide)))
      · exact h4 (Int32.toInt_inj.mp (q.trans (by decide)))
      · exact h5 (Int32.toInt_inj.mp (q.trans (by decide)))
      · exact h6 (Int32.toInt_inj.mp (q.trans (by decide)))
      · exact h7 (Int32.toInt_inj.mp (q.trans (by decide)))
      · exact h8 (Int32.toInt_inj.mp (q.trans (by decide)))
      · exact h9 (Int32.toInt_inj.mp (q.trans (by decide)))
      · exact h10 (Int32.toInt_inj.mp (q.trans (by decide)))
      · exact h11 (Int32.toInt_inj.mp (q.trans (by decide)))
      · exact h12 (Int32.toInt_inj.mp (q.trans (by decide)))
      · exact h13 (Int32.toInt_inj.mp (q.trans (by decide)))
      · exact h14 (Int32.toInt_inj.mp (q.trans (by decide)))
      · exact h15 (Int32.toInt_inj.mp (q.trans (by decide)))
      · exact h16 (Int32.toInt_inj.mp (q.trans (by decide)))
      · exact h17 (Int32.toInt_inj.mp (q.trans (by decide)))
      · exact h18 (Int32.toInt_inj.mp (q.trans (by decide)))
      · exact h19 (Int32.toInt_inj.mp (q.trans (by decide)))
      · exact h20 (Int32.toInt_inj.mp (q.trans (by decide)))
      · exact h21 (Int32.toInt_inj.mp (q.trans (by decide)))
      · exact h22 (Int32.toInt_inj.mp (q.trans (by decide)))
      · exact h23 (Int32.toInt_inj.mp (q.trans (by decide)))
      · exact h24 (Int32.toInt_inj.mp (q.trans (by decide)))
      · exact h25 (Int32.toInt_inj.mp (q.trans (by decide)))
