/-! ===== kinds, lengths ===== -/
def mm0 : mmMi := (yX0_init, ByteArray.empty, 0, none)
theorem mmC0.mono {d : Nat} {M : mmMi} {st : Bool} {n : Nat} {as : List Value} {μ : mmMem} {K K2 : mmMem → Prop} (h : mmC0 d M st n as μ K) (hk : ∀ ν, K ν → K2 ν) : mmC0 d M st n as μ K2 := mmCU.mono h (fun v ν q => by obtain ⟨rfl, q⟩ := mmP0_ok q; exact hk ν q)
theorem mmCI.mono {d : Nat} {M : mmMi} {st : Bool} {n : Nat} {as : List Value} {μ : mmMem} {K K2 : Int32 → mmMem → Prop} (h : mmCI d M st n as μ K) (hk : ∀ x ν, K x ν → K2 x ν) : mmCI d M st n as μ K2 := mmCU.mono h (fun v ν q => by obtain ⟨x, rfl, q⟩ := mmPI_ok q; exact hk x ν q)
theorem mmCJ.mono {d : Nat} {M : mmMi} {st : Bool} {n : Nat} {as : List Value} {μ : mmMem} {K K2 : Int64 → mmMem → Prop} (h : mmCJ d M st n as μ K) (hk : ∀ x ν, K x ν → K2 x ν) : mmCJ d M st n as μ K2 := mmCU.mono h (fun v ν q => by obtain ⟨x, rfl, q⟩ := mmPJ_ok q; exact hk x ν q)
theorem mmCF.mono {d : Nat} {M : mmMi} {st : Bool} {n : Nat} {as : List Value} {μ : mmMem} {K K2 : UInt32 → mmMem → Prop} (h : mmCF d M st n as μ K) (hk : ∀ x ν, K x ν → K2 x ν) : mmCF d M st n as μ K2 := mmCU.mono h (fun v ν q => by obtain ⟨x, rfl, q⟩ := mmPF_ok q; exact hk x ν q)
theorem mmCD.mono {d : Nat} {M : mmMi} {st : Bool} {n : Nat} {as : List Value} {μ : mmMem} {K K2 : UInt64 → mmMem → Prop} (h : mmCD d M st n as μ K) (hk : ∀ x ν, K x ν → K2 x ν) : mmCD d M st n as μ K2 := mmCU.mono h (fun v ν q => by obtain ⟨x, rfl, q⟩ := mmPD_ok q; exact hk x ν q)
theorem mmCA.mono {d : Nat} {M : mmMi} {st : Bool} {n : Nat} {as : List Value} {μ : mmMem} {K K2 : Nat → mmMem → Prop} (h : mmCA d M st n as μ K) (hk : ∀ x ν, K x ν → K2 x ν) : mmCA d M st n as μ K2 := mmCU.mono h (fun v ν q => by obtain ⟨x, rfl, q⟩ := mmPA_ok q; exact hk x ν q)
theorem kd_0 : mmKD 0 = 7 := by decide +kernel
theorem kd_1 : mmKD 1 = 4 := by decide +kernel
theorem kd_2 : mmKD 2 = 14 := by decide +kernel
theorem kd_3 : mmKD 3 = 15 := by decide +kernel
theorem kd_4 : mmKD 4 = 10 := by decide +kernel
theorem kd_5 : mmKD 5 = 13 := by decide +kernel
theorem kd_6 : mmKD 6 = 16 := by decide +kernel
theorem kd_7 : mmKD 7 = 1 := by decide +kernel
theorem kd_8 : mmKD 8 = 10 := by decide +kernel
theorem kd_9 : mmKD 9 = 11 := by decide +kernel
theorem kd_10 : mmKD 10 = 12 := by decide +kernel
theorem kd_11 : mmKD 11 = 1 := by decide +kernel
theorem kd_12 : mmKD 12 = 10 := by decide +kernel
theorem kd_13 : mmKD 13 = 11 := by decide +kernel
theorem kd_14 : mmKD 14 = 12 := by decide +kernel
theorem kd_15 : mmKD 15 = 1 := by decide +kernel
theorem kd_16 : mmKD 16 = 10 := by decide +kernel
theorem kd_17 : mmKD 17 = 11 := by decide +kernel
theorem kd_18 : mmKD 18 = 12 := by decide +kernel
theorem kd_19 : mmKD 19 = 1 := by decide +kernel
theorem kd_20 : mmKD 20 = 10 := by decide +kernel
theorem kd_21 : mmKD 21 = 11 := by decide +kernel
theorem kd_22 : mmKD 22 = 12 := by decide +kernel
theorem kd_23 : mmKD 23 = 1 := by decide +kernel
theorem kd_24 : mmKD 24 = 10 := by decide +kernel
theorem kd_25 : mmKD 25 = 11 := by decide +kernel
theorem kd_26 : mmKD 26 = 12 := by decide +kernel
theorem kd_27 : mmKD 27 = 1 := by decide +kernel
theorem kd_28 : mmKD 28 = 10 := by decide +kernel
theorem kd_29 : mmKD 29 = 11 := by decide +kernel
theorem kd_30 : mmKD 30 = 12 := by decide +kernel
theorem kd_31 : mmKD 31 = 1 := by decide +kernel
theorem kd_32 : mmKD 32 = 10 := by decide +kernel
theorem kd_33 : mmKD 33 = 11 := by decide +kernel
theorem kd_34 : mmKD 34 = 12 := by decide +kernel
theorem kd_35 : mmKD 35 = 1 := by decide +kernel
theorem kd_36 : mmKD 36 = 10 := by decide +kernel
theorem kd_37 : mmKD 37 = 11 := by decide +kernel
theorem kd_38 : mmKD 38 = 12 := by decide +kernel
theorem kd_39 : mmKD 39 = 1 := by decide +kernel
theorem kd_40 : mmKD 40 = 10 := by decide +kernel
theorem kd_41 : mmKD 41 = 11 := by decide +kernel
theorem kd_42 : mmKD 42 = 12 := by decide +kernel
theorem kd_43 : mmKD 43 = 1 := by decide +kernel
theorem kd_44 : mmKD 44 = 10 := by decide +kernel
theorem kd_45 : mmKD 45 = 11 := by decide +kernel
theorem kd_46 : mmKD 46 = 12 := by decide +kernel
theorem kd_47 : mmKD 47 = 1 := by decide +kernel
theorem kd_48 : mmKD 48 = 10 := by decide +kernel
theorem kd_49 : mmKD 49 = 11 := by decide +kernel
theorem kd_50 : mmKD 50 = 12 := by decide +kernel
theorem kd_51 : mmKD 51 = 1 := by decide +kernel
theorem kd_52 : mmKD 52 = 10 := by decide +kernel
theorem kd_53 : mmKD 53 = 11 := by decide +kernel
theorem kd_54 : mmKD 54 = 12 := by decide +kernel
theorem kd_55 : mmKD 55 = 6 := by decide +kernel
theorem kd_56 : mmKD 56 = 10 := by decide +kernel
theorem kd_57 : mmKD 57 = 6 := by decide +kernel
theorem kd_58 : mmKD 58 = 10 := by decide +kernel
theorem kd_59 : mmKD 59 = 2 := by decide +kernel
theorem kd_60 : mmKD 60 = 0 := by decide +kernel
theorem kd_61 : mmKD 61 = 2 := by decide +kernel
theorem kd_62 : mmKD 62 = 0 := by decide +kernel
theorem kd_63 : mmKD 63 = 2 := by decide +kernel
theorem kd_64 : mmKD 64 = 0 := by decide +kernel
theorem kd_65 : mmKD 65 = 2 := by decide +kernel
theorem kd_66 : mmKD 66 = 0 := by decide +kernel
theorem kd_67 : mmKD 67 = 2 := by decide +kernel
theorem kd_68 : mmKD 68 = 0 := by decide +kernel
theorem kd_69 : mmKD 69 = 2 := by decide +kernel
theorem kd_70 : mmKD 70 = 0 := by decide +kernel
theorem kd_71 : mmKD 71 = 4 := by decide +kernel
theorem kd_72 : mmKD 72 = 14 := by decide +kernel
theorem kd_73 : mmKD 73 = 15 := by decide +kernel
theorem kd_74 : mmKD 74 = 10 := by decide +kernel
theorem kd_75 : mmKD 75 = 13 := by decide +kernel
theorem kd_76 : mmKD 76 = 16 := by decide +kernel
theorem kd_77 : mmKD 77 = 1 := by decide +kernel
theorem kd_78 : mmKD 78 = 10 := by decide +kernel
theorem kd_79 : mmKD 79 = 11 := by decide +kernel
theorem kd_80 : mmKD 80 = 12 := by decide +kernel
theorem kd_81 : mmKD 81 = 1 := by decide +kernel
theorem kd_82 : mmKD 82 = 10 := by decide +kernel
theorem kd_83 : mmKD 83 = 11 := by decide +kernel
theorem kd_84 : mmKD 84 = 12 := by decide +kernel
theorem kd_85 : mmKD 85 = 1 := by decide +kernel
theorem kd_86 : mmKD 86 = 10 := by decide +kernel
theorem kd_87 : mmKD 87 = 11 := by decide +kernel
theorem kd_88 : mmKD 88 = 12 := by decide +kernel
theorem kd_89 : mmKD 89 = 1 := by decide +kernel
theorem kd_90 : mmKD 90 = 10 := by decide +kernel
theorem kd_91 : mmKD 91 = 11 := by decide +kernel
theorem kd_92 : mmKD 92 = 12 := by decide +kernel
theorem kd_93 : mmKD 93 = 1 := by decide +kernel
theorem kd_94 : mmKD 94 = 10 := by decide +kernel
theorem kd_95 : mmKD 95 = 11 := by decide +kernel
theorem kd_96 : mmKD 96 = 12 := by decide +kernel
theorem kd_97 : mmKD 97 = 1 := by decide +kernel
theorem kd_98 : mmKD 98 = 10 := by decide +kernel
theorem kd_99 : mmKD 99 = 11 := by decide +kernel
theorem kd_100 : mmKD 100 = 12 := by decide +kernel
theorem kd_101 : mmKD 101 = 1 := by decide +kernel
theorem kd_102 : mmKD 102 = 10 := by decide +kernel
theorem kd_103 : mmKD 103 = 11 := by decide +kernel
theorem kd_104 : mmKD 104 = 12 := by decide +kernel
theorem kd_105 : mmKD 105 = 1 := by decide +kernel
theorem kd_106 : mmKD 106 = 10 := by decide +kernel
theorem kd_107 : mmKD 107 = 11 := by decide +kernel
theorem kd_108 : mmKD 108 = 12 := by decide +kernel
theorem kd_109 : mmKD 109 = 1 := by decide +kernel
theorem kd_110 : mmKD 110 = 10 := by decide +kernel
theorem kd_111 : mmKD 111 = 11 := by decide +kernel
theorem kd_112 : mmKD 112 = 12 := by decide +kernel
theorem kd_113 : mmKD 113 = 1 := by decide +kernel
theorem kd_114 : mmKD 114 = 10 := by decide +kernel
theorem kd_115 : mmKD 115 = 11 := by decide +kernel
theorem kd_116 : mmKD 116 = 12 := by decide +kernel
theorem kd_117 : mmKD 117 = 1 := by decide +kernel
theorem kd_118 : mmKD 118 = 10 := by decide +kernel
theorem kd_119 : mmKD 119 = 11 := by decide +kernel
theorem kd_120 : mmKD 120 = 12 := by decide +kernel
theorem kd_121 : mmKD 121 = 1 := by decide +kernel
theorem kd_122 : mmKD 122 = 10 := by decide +kernel
theorem kd_123 : mmKD 123 = 11 := by decide +kernel
theorem kd_124 : mmKD 124 = 12 := by decide +kernel
theorem kd_125 : mmKD 125 = 6 := by decide +kernel
theorem kd_126 : mmKD 126 = 10 := by decide +kernel
theorem kd_127 : mmKD 127 = 6 := by decide +kernel
theorem kd_128 : mmKD 128 = 10 := by decide +kernel
theorem kd_129 : mmKD 129 = 2 := by decide +kernel
theorem kd_130 : mmKD 130 = 0 := by decide +kernel
theorem kd_131 : mmKD 131 = 2 := by decide +kernel
theorem kd_132 : mmKD 132 = 0 := by decide +kernel
theorem kd_133 : mmKD 133 = 2 := by decide +kernel
theorem kd_134 : mmKD 134 = 0 := by decide +kernel
theorem kd_135 : mmKD 135 = 2 := by decide +kernel
theorem kd_136 : mmKD 136 = 0 := by decide +kernel
theorem kd_137 : mmKD 137 = 2 := by decide +kernel
theorem kd_138 : mmKD 138 = 0 := by decide +kernel
theorem kd_139 : mmKD 139 = 2 := by decide +kernel
theorem kd_140 : mmKD 140 = 0 := by decide +kernel
theorem kd_141 : mmKD 141 = 5 := by decide +kernel
theorem kd_142 : mmKD 142 = 10 := by decide +kernel
theorem kd_143 : mmKD 143 = 0 := by decide +kernel
theorem kd_144 : mmKD 144 = 3 := by decide +kernel
theorem kd_145 : mmKD 145 = 10 := by decide +kernel
theorem kd_146 : mmKD 146 = 1 := by decide +kernel
theorem kd_147 : mmKD 147 = 10 := by decide +kernel
theorem kd_148 : mmKD 148 = 11 := by decide +kernel
theorem kd_149 : mmKD 149 = 12 := by decide +kernel
theorem kd_150 : mmKD 150 = 2 := by decide +kernel
theorem kd_151 : mmKD 151 = 0 := by decide +kernel
theorem kd_152 : mmKD 152 = 0 := by decide +kernel
theorem kd_153 : mmKD 153 = 0 := by decide +kernel
theorem kd_154 : mmKD 154 = 0 := by decide +kernel
theorem kd_155 : mmKD 155 = 10 := by decide +kernel
theorem kd_156 : mmKD 156 = 13 := by decide +kernel
theorem kd_157 : mmKD 157 = 10 := by decide +kernel
theorem kd_158 : mmKD 158 = 10 := by decide +kernel
theorem kd_159 : mmKD 159 = 10 := by decide +kernel
theorem ln_2 : mmLEN 2 = 12 := by decide +kernel
theorem ln_3 : mmLEN 3 = 2 := by decide +kernel
theorem ln_4 : mmLEN 4 = 4 := by decide +kernel
theorem ln_5 : mmLEN 5 = 4 := by decide +kernel
theorem ln_6 : mmLEN 6 = 6 := by decide +kernel
theorem ln_8 : mmLEN 8 = 40 := by decide +kernel
theorem ln_9 : mmLEN 9 = 40 := by decide +kernel
theorem ln_10 : mmLEN 10 = 40 := by decide +kernel
theorem ln_12 : mmLEN 12 = 40 := by decide +kernel
theorem ln_13 : mmLEN 13 = 40 := by decide +kernel
theorem ln_14 : mmLEN 14 = 40 := by decide +kernel
theorem ln_16 : mmLEN 16 = 40 := by decide +kernel
theorem ln_17 : mmLEN 17 = 40 := by decide +kernel
theorem ln_18 : mmLEN 18 = 40 := by decide +kernel
theorem ln_20 : mmLEN 20 = 40 := by decide +kernel
theorem ln_21 : mmLEN 21 = 40 := by decide +kernel
theorem ln_22 : mmLEN 22 = 40 := by decide +kernel
theorem ln_24 : mmLEN 24 = 40 := by decide +kernel
theorem ln_25 : mmLEN 25 = 40 := by decide +kernel
theorem ln_26 : mmLEN 26 = 40 := by decide +kernel
theorem ln_28 : mmLEN 28 = 40 := by decide +kernel
theorem ln_29 : mmLEN 29 = 40 := by decide +kernel
theorem ln_30 : mmLEN 30 = 40 := by decide +kernel
theorem ln_32 : mmLEN 32 = 40 := by decide +kernel
theorem ln_33 : mmLEN 33 = 40 := by decide +kernel
theorem ln_34 : mmLEN 34 = 40 := by decide +kernel
theorem ln_36 : mmLEN 36 = 40 := by decide +kernel
theorem ln_37 : mmLEN 37 = 40 := by decide +kernel
theorem ln_38 : mmLEN 38 = 40 := by decide +kernel
theorem ln_40 : mmLEN 40 = 40 := by decide +kernel
theorem ln_41 : mmLEN 41 = 40 := by decide +kernel
theorem ln_42 : mmLEN 42 = 40 := by decide +kernel
theorem ln_44 : mmLEN 44 = 40 := by decide +kernel
theorem ln_45 : mmLEN 45 = 40 := by decide +kernel
theorem ln_46 : mmLEN 46 = 40 := by decide +kernel
theorem ln_48 : mmLEN 48 = 40 := by decide +kernel
theorem ln_49 : mmLEN 49 = 40 := by decide +kernel
theorem ln_50 : mmLEN 50 = 40 := by decide +kernel
theorem ln_52 : mmLEN 52 = 40 := by decide +kernel
theorem ln_53 : mmLEN 53 = 40 := by decide +kernel
theorem ln_54 : mmLEN 54 = 40 := by decide +kernel
theorem ln_56 : mmLEN 56 = 40 := by decide +kernel
theorem ln_58 : mmLEN 58 = 40 := by decide +kernel
theorem ln_72 : mmLEN 72 = 12 := by decide +kernel
theorem ln_73 : mmLEN 73 = 2 := by decide +kernel
theorem ln_74 : mmLEN 74 = 4 := by decide +kernel
theorem ln_75 : mmLEN 75 = 4 := by decide +kernel
theorem ln_76 : mmLEN 76 = 6 := by decide +kernel
theorem ln_78 : mmLEN 78 = 40 := by decide +kernel
theorem ln_79 : mmLEN 79 = 40 := by decide +kernel
theorem ln_80 : mmLEN 80 = 40 := by decide +kernel
theorem ln_82 : mmLEN 82 = 40 := by decide +kernel
theorem ln_83 : mmLEN 83 = 40 := by decide +kernel
theorem ln_84 : mmLEN 84 = 40 := by decide +kernel
theorem ln_86 : mmLEN 86 = 40 := by decide +kernel
theorem ln_87 : mmLEN 87 = 40 := by decide +kernel
theorem ln_88 : mmLEN 88 = 40 := by decide +kernel
theorem ln_90 : mmLEN 90 = 40 := by decide +kernel
theorem ln_91 : mmLEN 91 = 40 := by decide +kernel
theorem ln_92 : mmLEN 92 = 40 := by decide +kernel
theorem ln_94 : mmLEN 94 = 40 := by decide +kernel
theorem ln_95 : mmLEN 95 = 40 := by decide +kernel
theorem ln_96 : mmLEN 96 = 40 := by decide +kernel
theorem ln_98 : mmLEN 98 = 40 := by decide +kernel
theorem ln_99 : mmLEN 99 = 40 := by decide +kernel
theorem ln_100 : mmLEN 100 = 40 := by decide +kernel
theorem ln_102 : mmLEN 102 = 40 := by decide +kernel
theorem ln_103 : mmLEN 103 = 40 := by decide +kernel
theorem ln_104 : mmLEN 104 = 40 := by decide +kernel
theorem ln_106 : mmLEN 106 = 40 := by decide +kernel
theorem ln_107 : mmLEN 107 = 40 := by decide +kernel
theorem ln_108 : mmLEN 108 = 40 := by decide +kernel
theorem ln_110 : mmLEN 110 = 40 := by decide +kernel
theorem ln_111 : mmLEN 111 = 40 := by decide +kernel
theorem ln_112 : mmLEN 112 = 40 := by decide +kernel
theorem ln_114 : mmLEN 114 = 40 := by decide +kernel
theorem ln_115 : mmLEN 115 = 40 := by decide +kernel
theorem ln_116 : mmLEN 116 = 40 := by decide +kernel
theorem ln_118 : mmLEN 118 = 40 := by decide +kernel
theorem ln_119 : mmLEN 119 = 40 := by decide +kernel
theorem ln_120 : mmLEN 120 = 40 := by decide +kernel
theorem ln_122 : mmLEN 122 = 40 := by decide +kernel
theorem ln_123 : mmLEN 123 = 40 := by decide +kernel
theorem ln_124 : mmLEN 124 = 40 := by decide +kernel
theorem ln_126 : mmLEN 126 = 40 := by decide +kernel
theorem ln_128 : mmLEN 128 = 40 := by decide +kernel
theorem ln_142 : mmLEN 142 = 100 := by decide +kernel
theorem ln_145 : mmLEN 145 = 1000 := by decide +kernel
theorem ln_147 : mmLEN 147 = 40 := by decide +kernel
theorem ln_148 : mmLEN 148 = 40 := by decide +kernel
theorem ln_149 : mmLEN 149 = 40 := by decide +kernel
theorem ln_155 : mmLEN 155 = 40 := by decide +kernel
theorem ln_156 : mmLEN 156 = 40 := by decide +kernel
theorem ln_157 : mmLEN 157 = 40 := by decide +kernel
theorem ln_158 : mmLEN 158 = 64 := by decide +kernel
theorem ln_159 : mmLEN 159 = 64 := by decide +kernel
theorem kfa_1_2 : ∀ o, o < 160 → mmKD o = 1 → mmKD (o + 1) = 10 ∧ mmLEN (o + 1) = 40 := by decide +kernel
theorem kf_1_2 {o : Nat} (h : mmKD o = 1) : mmKD (o + 1) = 10 := (kfa_1_2 o (mmKD_lt (by omega)) h).1
theorem lf_1_2 {o : Nat} (h : mmKD o = 1) : mmLEN (o + 1) = 40 := (kfa_1_2 o (mmKD_lt (by omega)) h).2
theorem kfa_1_3 : ∀ o, o < 160 → mmKD o = 1 → mmKD (o + 2) = 11 ∧ mmLEN (o + 2) = 40 := by decide +kernel
theorem kf_1_3 {o : Nat} (h : mmKD o = 1) : mmKD (o + 2) = 11 := (kfa_1_3 o (mmKD_lt (by omega)) h).1
theorem lf_1_3 {o : Nat} (h : mmKD o = 1) : mmLEN (o + 2) = 40 := (kfa_1_3 o (mmKD_lt (by omega)) h).2
theorem kfa_1_4 : ∀ o, o < 160 → mmKD o = 1 → mmKD (o + 3) = 12 ∧ mmLEN (o + 3) = 40 := by decide +kernel
theorem kf_1_4 {o : Nat} (h : mmKD o = 1) : mmKD (o + 3) = 12 := (kfa_1_4 o (mmKD_lt (by omega)) h).1
theorem lf_1_4 {o : Nat} (h : mmKD o = 1) : mmLEN (o + 3) = 40 := (kfa_1_4 o (mmKD_lt (by omega)) h).2
theorem kfa_2_2 : ∀ o, o < 160 → mmKD o = 2 → mmKD (o + 1) = 0 ∧ mmLEN (o + 1) = 0 := by decide +kernel
theorem kf_2_2 {o : Nat} (h : mmKD o = 2) : mmKD (o + 1) = 0 := (kfa_2_2 o (mmKD_lt (by omega)) h).1
theorem kfa_3_1 : ∀ o, o < 160 → mmKD o = 3 → mmKD (o + 1) = 10 ∧ mmLEN (o + 1) = 1000 := by decide +kernel
theorem kf_3_1 {o : Nat} (h : mmKD o = 3) : mmKD (o + 1) = 10 := (kfa_3_1 o (mmKD_lt (by omega)) h).1
theorem lf_3_1 {o : Nat} (h : mmKD o = 3) : mmLEN (o + 1) = 1000 := (kfa_3_1 o (mmKD_lt (by omega)) h).2
theorem kfa_4_4 : ∀ o, o < 160 → mmKD o = 4 → mmKD (o + 1) = 14 ∧ mmLEN (o + 1) = 12 := by decide +kernel
theorem kf_4_4 {o : Nat} (h : mmKD o = 4) : mmKD (o + 1) = 14 := (kfa_4_4 o (mmKD_lt (by omega)) h).1
theorem lf_4_4 {o : Nat} (h : mmKD o = 4) : mmLEN (o + 1) = 12 := (kfa_4_4 o (mmKD_lt (by omega)) h).2
theorem kfa_4_5 : ∀ o, o < 160 → mmKD o = 4 → mmKD (o + 2) = 15 ∧ mmLEN (o + 2) = 2 := by decide +kernel
theorem kf_4_5 {o : Nat} (h : mmKD o = 4) : mmKD (o + 2) = 15 := (kfa_4_5 o (mmKD_lt (by omega)) h).1
theorem lf_4_5 {o : Nat} (h : mmKD o = 4) : mmLEN (o + 2) = 2 := (kfa_4_5 o (mmKD_lt (by omega)) h).2
theorem kfa_4_6 : ∀ o, o < 160 → mmKD o = 4 → mmKD (o + 3) = 10 ∧ mmLEN (o + 3) = 4 := by decide +kernel
theorem kf_4_6 {o : Nat} (h : mmKD o = 4) : mmKD (o + 3) = 10 := (kfa_4_6 o (mmKD_lt (by omega)) h).1
theorem lf_4_6 {o : Nat} (h : mmKD o = 4) : mmLEN (o + 3) = 4 := (kfa_4_6 o (mmKD_lt (by omega)) h).2
theorem kfa_4_7 : ∀ o, o < 160 → mmKD o = 4 → mmKD (o + 4) = 13 ∧ mmLEN (o + 4) = 4 := by decide +kernel
theorem kf_4_7 {o : Nat} (h : mmKD o = 4) : mmKD (o + 4) = 13 := (kfa_4_7 o (mmKD_lt (by omega)) h).1
theorem lf_4_7 {o : Nat} (h : mmKD o = 4) : mmLEN (o + 4) = 4 := (kfa_4_7 o (mmKD_lt (by omega)) h).2
theorem kfa_4_8 : ∀ o, o < 160 → mmKD o = 4 → mmKD (o + 5) = 16 ∧ mmLEN (o + 5) = 6 := by decide +kernel
theorem kf_4_8 {o : Nat} (h : mmKD o = 4) : mmKD (o + 5) = 16 := (kfa_4_8 o (mmKD_lt (by omega)) h).1
theorem lf_4_8 {o : Nat} (h : mmKD o = 4) : mmLEN (o + 5) = 6 := (kfa_4_8 o (mmKD_lt (by omega)) h).2
theorem kfa_5_2 : ∀ o, o < 160 → mmKD o = 5 → mmKD (o + 1) = 10 ∧ mmLEN (o + 1) = 100 := by decide +kernel
theorem kf_5_2 {o : Nat} (h : mmKD o = 5) : mmKD (o + 1) = 10 := (kfa_5_2 o (mmKD_lt (by omega)) h).1
theorem lf_5_2 {o : Nat} (h : mmKD o = 5) : mmLEN (o + 1) = 100 := (kfa_5_2 o (mmKD_lt (by omega)) h).2
theorem kfa_5_3 : ∀ o, o < 160 → mmKD o = 5 → mmKD (o + 2) = 0 ∧ mmLEN (o + 2) = 0 := by decide +kernel
theorem kf_5_3 {o : Nat} (h : mmKD o = 5) : mmKD (o + 2) = 0 := (kfa_5_3 o (mmKD_lt (by omega)) h).1
theorem kfa_6_1 : ∀ o, o < 160 → mmKD o = 6 → mmKD (o + 1) = 10 ∧ mmLEN (o + 1) = 40 := by decide +kernel
theorem kf_6_1 {o : Nat} (h : mmKD o = 6) : mmKD (o + 1) = 10 := (kfa_6_1 o (mmKD_lt (by omega)) h).1
theorem lf_6_1 {o : Nat} (h : mmKD o = 6) : mmLEN (o + 1) = 40 := (kfa_6_1 o (mmKD_lt (by omega)) h).2
theorem kea_14 : ∀ o, o < 160 → mmKD o = 14 → ∀ i, i < mmLEN o → mmKD (o + 5 + 4 * i) = 1 := by decide +kernel
theorem ke_14 {o : Nat} {j : Int32} (h : mmKD o = 14) (hv : vp_in j (mmLEN o)) : mmKD (o + 5 + 4 * j.toNatClampNeg) = 1 := kea_14 o (mmKD_lt (by omega)) h _ (by unfold vp_in at hv; omega)
theorem kea_15 : ∀ o, o < 160 → mmKD o = 15 → ∀ i, i < mmLEN o → mmKD (o + 52 + 2 * i) = 6 := by decide +kernel
theorem ke_15 {o : Nat} {j : Int32} (h : mmKD o = 15) (hv : vp_in j (mmLEN o)) : mmKD (o + 52 + 2 * j.toNatClampNeg) = 6 := kea_15 o (mmKD_lt (by omega)) h _ (by unfold vp_in at hv; omega)
theorem kea_16 : ∀ o, o < 160 → mmKD o = 16 → ∀ i, i < mmLEN o → mmKD (o + 53 + 2 * i) = 2 := by decide +kernel
theorem ke_16 {o : Nat} {j : Int32} (h : mmKD o = 16) (hv : vp_in j (mmLEN o)) : mmKD (o + 53 + 2 * j.toNatClampNeg) = 2 := kea_16 o (mmKD_lt (by omega)) h _ (by unfold vp_in at hv; omega)
theorem vp_l {o n : Nat} {j : Int32} (e : mmLEN o = n) (h : vp_in j n) : vp_in j (mmLEN o) := e ▸ h
theorem vp_lit {x : Int32} {n : Nat} (h : 0 ≤ x.toInt ∧ x.toInt < n) : vp_in x n := vp_in_iff.mpr h
theorem vp_le {n m : Nat} {j : Int32} (h : vp_in j n) (hm : n ≤ m) : vp_in j m := by rw [vp_in_iff] at h ⊢; omega
theorem vp_mk {x c : Int32} {n : Nat} (h1 : ¬ x < 0) (h2 : ¬ c ≤ x) (hc : c.toInt ≤ n) : vp_in x n := by
  rw [vp_in_iff]
  rw [Int32.lt_iff_toInt_lt] at h1
  rw [Int32.le_iff_toInt_le] at h2
  have h3 : (0 : Int32).toInt = 0 := rfl
  omega
theorem cpl_l {o n a b : Nat} (e : mmLEN o = n) (h : a + b ≤ n) : a + b ≤ mmLEN o := e ▸ h
