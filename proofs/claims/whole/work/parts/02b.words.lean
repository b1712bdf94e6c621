/-! the words of the tables that are good, one by one -/
def TW : List Cond := lw_tbl.filter goodWord
theorem TW_good : ∀ w ∈ TW, goodWord w = true := fun _ h => (List.mem_filter.mp h).2
theorem TW_tbl : ∀ w ∈ TW, w ∈ lw_tbl := fun _ h => (List.mem_filter.mp h).1
theorem TW_t {w : Cond} (i : Nat) (h : tables_1[i]? = some w) (g : goodWord w = true) : w ∈ TW := List.mem_filter.mpr ⟨List.mem_append_right _ (List.mem_of_getElem? h), g⟩
theorem TW_p {w : Cond} (i : Nat) (h : (k2_sels lw_privs)[i]? = some w) (g : goodWord w = true) : w ∈ TW := List.mem_filter.mpr ⟨List.mem_append_left _ (List.mem_of_getElem? h), g⟩
theorem wd_0 : Cond.initialized RL ∈ TW := TW_t 0 (by decide +kernel) rfl
theorem wd_1 : Cond.initialized RX5 ∈ TW := TW_t 1 (by decide +kernel) rfl
theorem wd_2 : Cond.initialized RX3 ∈ TW := TW_t 2 (by decide +kernel) rfl
theorem wd_3 : Cond.initialized RX2 ∈ TW := TW_t 3 (by decide +kernel) rfl
theorem wd_4 : Cond.initialized RX0 ∈ TW := TW_t 4 (by decide +kernel) rfl
theorem wd_5 : Cond.initialized RX4 ∈ TW := TW_t 5 (by decide +kernel) rfl
theorem wd_6 : Cond.initialized RX1 ∈ TW := TW_t 6 (by decide +kernel) rfl
theorem wd_7 : Cond.initialized RX6 ∈ TW := TW_t 7 (by decide +kernel) rfl
theorem wd_8 : Cond.initialized RJ9 ∈ TW := TW_t 8 (by decide +kernel) rfl
theorem wd_9 : Cond.initialized RJ10 ∈ TW := TW_t 9 (by decide +kernel) rfl
theorem wd_10 : Cond.initialized RJ6 ∈ TW := TW_t 10 (by decide +kernel) rfl
theorem wd_11 : Cond.classLink RL 7 RX5 ∈ TW := TW_t 11 (by decide +kernel) rfl
theorem wd_12 : Cond.instantiable RX5 13 ∈ TW := TW_t 12 (by decide +kernel) rfl
theorem wd_13 : Cond.methodLink RL 9 yX5_init ∈ TW := TW_t 13 (by decide +kernel) rfl
theorem wd_14 : Cond.instanceMethod yX5_init ∈ TW := TW_t 14 (by decide +kernel) rfl
set_option maxRecDepth 20000 in
theorem wd_15 : Cond.code yX5_init cX5_init 2 none ∈ TW := TW_t 15 rfl rfl
theorem wd_16 : Cond.methodLink RX5 1 objectInit ∈ TW := TW_t 16 (by decide +kernel) rfl
theorem wd_17 : Cond.instanceMethod objectInit ∈ TW := TW_t 17 (by decide +kernel) rfl
set_option maxRecDepth 20000 in
theorem wd_18 : Cond.code objectInit ⟨#[0xb1]⟩ 1 none ∈ TW := TW_t 18 rfl rfl
theorem wd_19 : Cond.classLink RX5 7 RX3 ∈ TW := TW_t 19 (by decide +kernel) rfl
theorem wd_20 : Cond.instantiable RX3 9 ∈ TW := TW_t 20 (by decide +kernel) rfl
theorem wd_21 : Cond.methodLink RX5 9 yX3_init ∈ TW := TW_t 21 (by decide +kernel) rfl
theorem wd_22 : Cond.instanceMethod yX3_init ∈ TW := TW_t 22 (by decide +kernel) rfl
set_option maxRecDepth 20000 in
theorem wd_23 : Cond.code yX3_init cX3_init 1 none ∈ TW := TW_t 23 rfl rfl
theorem wd_24 : Cond.methodLink RX3 3 objectInit ∈ TW := TW_t 24 (by decide +kernel) rfl
theorem wd_25 : Cond.fieldLink RX3 15 "TrunkRadio$Reader" "length" "I" ∈ TW := TW_t 25 (by decide +kernel) rfl
theorem wd_26 : Cond.fieldLink RX5 68 "TrunkRadio$Reader" "length" "I" ∈ TW := TW_t 26 (by decide +kernel) rfl
theorem wd_27 : Cond.fieldLink RX3 9 "TrunkRadio$Reader" "letters" "[I" ∈ TW := TW_t 27 (by decide +kernel) rfl
theorem wd_28 : Cond.fieldLink RX3 24 "TrunkRadio$Reader" "at" "I" ∈ TW := TW_t 28 (by decide +kernel) rfl
theorem wd_29 : Cond.fieldLink RX3 47 "TrunkRadio$Reader" "start" "I" ∈ TW := TW_t 29 (by decide +kernel) rfl
theorem wd_30 : Cond.fieldLink RX3 40 "TrunkRadio$Reader" "kind" "I" ∈ TW := TW_t 30 (by decide +kernel) rfl
theorem wd_31 : Cond.fieldLink RX3 61 "TrunkRadio$Reader" "value" "I" ∈ TW := TW_t 31 (by decide +kernel) rfl
theorem wd_32 : Cond.fieldLink RX3 27 "TrunkRadio$Reader" "channelsTold" "Z" ∈ TW := TW_t 32 (by decide +kernel) rfl
theorem wd_33 : Cond.fieldLink RX3 31 "TrunkRadio$Reader" "airTold" "Z" ∈ TW := TW_t 33 (by decide +kernel) rfl
theorem wd_34 : Cond.fieldLink RX3 34 "TrunkRadio$Reader" "patienceTold" "Z" ∈ TW := TW_t 34 (by decide +kernel) rfl
theorem wd_35 : Cond.lays RX3 "TrunkRadio$Reader" "length" "I" ∈ TW := TW_t 35 (by decide +kernel) rfl
theorem wd_37 : Cond.laysFinal RX3 "TrunkRadio$Reader" "letters" "[I" ∈ TW := TW_t 37 (by decide +kernel) rfl
theorem wd_39 : Cond.lays RX3 "TrunkRadio$Reader" "at" "I" ∈ TW := TW_t 39 (by decide +kernel) rfl
theorem wd_41 : Cond.lays RX3 "TrunkRadio$Reader" "start" "I" ∈ TW := TW_t 41 (by decide +kernel) rfl
theorem wd_43 : Cond.lays RX3 "TrunkRadio$Reader" "kind" "I" ∈ TW := TW_t 43 (by decide +kernel) rfl
theorem wd_45 : Cond.lays RX3 "TrunkRadio$Reader" "value" "I" ∈ TW := TW_t 45 (by decide +kernel) rfl
theorem wd_47 : Cond.lays RX3 "TrunkRadio$Reader" "channelsTold" "Z" ∈ TW := TW_t 47 (by decide +kernel) rfl
theorem wd_49 : Cond.lays RX3 "TrunkRadio$Reader" "airTold" "Z" ∈ TW := TW_t 49 (by decide +kernel) rfl
theorem wd_51 : Cond.lays RX3 "TrunkRadio$Reader" "patienceTold" "Z" ∈ TW := TW_t 51 (by decide +kernel) rfl
theorem wd_54 : Cond.arrayClass .int ∈ TW := TW_t 54 (by decide +kernel) rfl
theorem wd_55 : Cond.classLink RX5 16 RX2 ∈ TW := TW_t 55 (by decide +kernel) rfl
theorem wd_56 : Cond.instantiable RX2 7 ∈ TW := TW_t 56 (by decide +kernel) rfl
theorem wd_57 : Cond.methodLink RX5 18 yX2_init ∈ TW := TW_t 57 (by decide +kernel) rfl
theorem wd_58 : Cond.instanceMethod yX2_init ∈ TW := TW_t 58 (by decide +kernel) rfl
set_option maxRecDepth 20000 in
theorem wd_59 : Cond.code yX2_init cX2_init 1 none ∈ TW := TW_t 59 rfl rfl
theorem wd_60 : Cond.methodLink RX2 3 objectInit ∈ TW := TW_t 60 (by decide +kernel) rfl
theorem wd_61 : Cond.methodLink RX2 24 yX2_beginAnew ∈ TW := TW_t 61 (by decide +kernel) rfl
theorem wd_62 : Cond.instanceMethod yX2_beginAnew ∈ TW := TW_t 62 (by decide +kernel) rfl
theorem wd_63 : Cond.selects RX2 yX2_beginAnew yX2_beginAnew ∈ TW := TW_t 63 (by decide +kernel) rfl
set_option maxRecDepth 20000 in
theorem wd_64 : Cond.code yX2_beginAnew cX2_beginAnew 1 none ∈ TW := TW_t 64 rfl rfl
theorem wd_65 : Cond.fieldLink RX2 27 "TrunkRadio$Net" "radios" "I" ∈ TW := TW_t 65 (by decide +kernel) rfl
theorem wd_66 : Cond.fieldLink RX0 77 "TrunkRadio$Net" "radios" "I" ∈ TW := TW_t 66 (by decide +kernel) rfl
theorem wd_67 : Cond.fieldLink RX5 107 "TrunkRadio$Net" "radios" "I" ∈ TW := TW_t 67 (by decide +kernel) rfl
theorem wd_68 : Cond.fieldLink RX4 62 "TrunkRadio$Net" "radios" "I" ∈ TW := TW_t 68 (by decide +kernel) rfl
theorem wd_69 : Cond.fieldLink RX3 83 "TrunkRadio$Net" "radios" "I" ∈ TW := TW_t 69 (by decide +kernel) rfl
theorem wd_70 : Cond.fieldLink RX2 31 "TrunkRadio$Net" "air" "I" ∈ TW := TW_t 70 (by decide +kernel) rfl
theorem wd_71 : Cond.fieldLink RX0 112 "TrunkRadio$Net" "air" "I" ∈ TW := TW_t 71 (by decide +kernel) rfl
theorem wd_72 : Cond.fieldLink RX3 96 "TrunkRadio$Net" "air" "I" ∈ TW := TW_t 72 (by decide +kernel) rfl
theorem wd_73 : Cond.fieldLink RX5 229 "TrunkRadio$Net" "air" "I" ∈ TW := TW_t 73 (by decide +kernel) rfl
theorem wd_74 : Cond.fieldLink RX2 34 "TrunkRadio$Net" "patience" "I" ∈ TW := TW_t 74 (by decide +kernel) rfl
theorem wd_75 : Cond.fieldLink RX3 99 "TrunkRadio$Net" "patience" "I" ∈ TW := TW_t 75 (by decide +kernel) rfl
theorem wd_76 : Cond.fieldLink RX0 149 "TrunkRadio$Net" "patience" "I" ∈ TW := TW_t 76 (by decide +kernel) rfl
theorem wd_77 : Cond.fieldLink RX5 231 "TrunkRadio$Net" "patience" "I" ∈ TW := TW_t 77 (by decide +kernel) rfl
theorem wd_78 : Cond.fieldLink RX2 9 "TrunkRadio$Net" "channels" "[I" ∈ TW := TW_t 78 (by decide +kernel) rfl
theorem wd_79 : Cond.fieldLink RX0 103 "TrunkRadio$Net" "channels" "[I" ∈ TW := TW_t 79 (by decide +kernel) rfl
theorem wd_80 : Cond.fieldLink RX4 65 "TrunkRadio$Net" "channels" "[I" ∈ TW := TW_t 80 (by decide +kernel) rfl
theorem wd_81 : Cond.fieldLink RX3 93 "TrunkRadio$Net" "channels" "[I" ∈ TW := TW_t 81 (by decide +kernel) rfl
theorem wd_82 : Cond.fieldLink RX5 164 "TrunkRadio$Net" "channels" "[I" ∈ TW := TW_t 82 (by decide +kernel) rfl
theorem wd_83 : Cond.fieldLink RX2 15 "TrunkRadio$Net" "firstSite" "[I" ∈ TW := TW_t 83 (by decide +kernel) rfl
theorem wd_84 : Cond.fieldLink RX4 30 "TrunkRadio$Net" "firstSite" "[I" ∈ TW := TW_t 84 (by decide +kernel) rfl
theorem wd_85 : Cond.fieldLink RX3 102 "TrunkRadio$Net" "firstSite" "[I" ∈ TW := TW_t 85 (by decide +kernel) rfl
theorem wd_86 : Cond.fieldLink RX2 18 "TrunkRadio$Net" "group" "[I" ∈ TW := TW_t 86 (by decide +kernel) rfl
theorem wd_87 : Cond.fieldLink RX0 109 "TrunkRadio$Net" "group" "[I" ∈ TW := TW_t 87 (by decide +kernel) rfl
theorem wd_88 : Cond.fieldLink RX5 152 "TrunkRadio$Net" "group" "[I" ∈ TW := TW_t 88 (by decide +kernel) rfl
theorem wd_89 : Cond.fieldLink RX4 68 "TrunkRadio$Net" "group" "[I" ∈ TW := TW_t 89 (by decide +kernel) rfl
theorem wd_90 : Cond.fieldLink RX3 105 "TrunkRadio$Net" "group" "[I" ∈ TW := TW_t 90 (by decide +kernel) rfl
theorem wd_91 : Cond.fieldLink RX2 21 "TrunkRadio$Net" "rank" "[I" ∈ TW := TW_t 91 (by decide +kernel) rfl
theorem wd_92 : Cond.fieldLink RX0 126 "TrunkRadio$Net" "rank" "[I" ∈ TW := TW_t 92 (by decide +kernel) rfl
theorem wd_93 : Cond.fieldLink RX5 155 "TrunkRadio$Net" "rank" "[I" ∈ TW := TW_t 93 (by decide +kernel) rfl
theorem wd_94 : Cond.fieldLink RX3 108 "TrunkRadio$Net" "rank" "[I" ∈ TW := TW_t 94 (by decide +kernel) rfl
theorem wd_95 : Cond.lays RX2 "TrunkRadio$Net" "radios" "I" ∈ TW := TW_t 95 (by decide +kernel) rfl
theorem wd_97 : Cond.lays RX2 "TrunkRadio$Net" "air" "I" ∈ TW := TW_t 97 (by decide +kernel) rfl
theorem wd_99 : Cond.lays RX2 "TrunkRadio$Net" "patience" "I" ∈ TW := TW_t 99 (by decide +kernel) rfl
theorem wd_101 : Cond.laysFinal RX2 "TrunkRadio$Net" "channels" "[I" ∈ TW := TW_t 101 (by decide +kernel) rfl
theorem wd_103 : Cond.laysFinal RX2 "TrunkRadio$Net" "firstSite" "[I" ∈ TW := TW_t 103 (by decide +kernel) rfl
theorem wd_105 : Cond.laysFinal RX2 "TrunkRadio$Net" "group" "[I" ∈ TW := TW_t 105 (by decide +kernel) rfl
theorem wd_107 : Cond.laysFinal RX2 "TrunkRadio$Net" "rank" "[I" ∈ TW := TW_t 107 (by decide +kernel) rfl
theorem wd_110 : Cond.classLink RX5 26 RX0 ∈ TW := TW_t 110 (by decide +kernel) rfl
theorem wd_111 : Cond.instantiable RX0 2 ∈ TW := TW_t 111 (by decide +kernel) rfl
theorem wd_112 : Cond.methodLink RX5 28 yX0_init ∈ TW := TW_t 112 (by decide +kernel) rfl
theorem wd_113 : Cond.instanceMethod yX0_init ∈ TW := TW_t 113 (by decide +kernel) rfl
set_option maxRecDepth 20000 in
theorem wd_114 : Cond.code yX0_init cX0_init 1 none ∈ TW := TW_t 114 rfl rfl
theorem wd_115 : Cond.methodLink RX0 3 objectInit ∈ TW := TW_t 115 (by decide +kernel) rfl
theorem wd_116 : Cond.fieldLink RX0 9 "TrunkRadio$Air" "line" "[I" ∈ TW := TW_t 116 (by decide +kernel) rfl
theorem wd_117 : Cond.fieldLink RX5 178 "TrunkRadio$Air" "line" "[I" ∈ TW := TW_t 117 (by decide +kernel) rfl
theorem wd_118 : Cond.fieldLink RX0 15 "TrunkRadio$Air" "was" "[I" ∈ TW := TW_t 118 (by decide +kernel) rfl
theorem wd_119 : Cond.laysFinal RX0 "TrunkRadio$Air" "line" "[I" ∈ TW := TW_t 119 (by decide +kernel) rfl
theorem wd_121 : Cond.laysFinal RX0 "TrunkRadio$Air" "was" "[I" ∈ TW := TW_t 121 (by decide +kernel) rfl
theorem wd_124 : Cond.classLink RX5 33 RX4 ∈ TW := TW_t 124 (by decide +kernel) rfl
theorem wd_125 : Cond.instantiable RX4 10 ∈ TW := TW_t 125 (by decide +kernel) rfl
theorem wd_126 : Cond.methodLink RX5 35 yX4_init ∈ TW := TW_t 126 (by decide +kernel) rfl
theorem wd_127 : Cond.instanceMethod yX4_init ∈ TW := TW_t 127 (by decide +kernel) rfl
set_option maxRecDepth 20000 in
theorem wd_128 : Cond.code yX4_init cX4_init 1 none ∈ TW := TW_t 128 rfl rfl
theorem wd_129 : Cond.methodLink RX4 3 objectInit ∈ TW := TW_t 129 (by decide +kernel) rfl
theorem wd_130 : Cond.fieldLink RX4 9 "TrunkRadio$State" "site" "[I" ∈ TW := TW_t 130 (by decide +kernel) rfl
theorem wd_131 : Cond.fieldLink RX0 70 "TrunkRadio$State" "site" "[I" ∈ TW := TW_t 131 (by decide +kernel) rfl
theorem wd_132 : Cond.fieldLink RX5 129 "TrunkRadio$State" "site" "[I" ∈ TW := TW_t 132 (by decide +kernel) rfl
theorem wd_133 : Cond.fieldLink RX4 15 "TrunkRadio$State" "how" "[I" ∈ TW := TW_t 133 (by decide +kernel) rfl
theorem wd_134 : Cond.fieldLink RX0 18 "TrunkRadio$State" "how" "[I" ∈ TW := TW_t 134 (by decide +kernel) rfl
theorem wd_135 : Cond.fieldLink RX5 119 "TrunkRadio$State" "how" "[I" ∈ TW := TW_t 135 (by decide +kernel) rfl
theorem wd_136 : Cond.fieldLink RX4 18 "TrunkRadio$State" "since" "[I" ∈ TW := TW_t 136 (by decide +kernel) rfl
theorem wd_137 : Cond.fieldLink RX0 90 "TrunkRadio$State" "since" "[I" ∈ TW := TW_t 137 (by decide +kernel) rfl
theorem wd_138 : Cond.fieldLink RX5 158 "TrunkRadio$State" "since" "[I" ∈ TW := TW_t 138 (by decide +kernel) rfl
theorem wd_139 : Cond.fieldLink RX4 21 "TrunkRadio$State" "urgent" "[I" ∈ TW := TW_t 139 (by decide +kernel) rfl
theorem wd_140 : Cond.fieldLink RX0 93 "TrunkRadio$State" "urgent" "[I" ∈ TW := TW_t 140 (by decide +kernel) rfl
theorem wd_141 : Cond.fieldLink RX5 126 "TrunkRadio$State" "urgent" "[I" ∈ TW := TW_t 141 (by decide +kernel) rfl
theorem wd_142 : Cond.fieldLink RX4 24 "TrunkRadio$State" "held" "[I" ∈ TW := TW_t 142 (by decide +kernel) rfl
theorem wd_143 : Cond.fieldLink RX5 161 "TrunkRadio$State" "held" "[I" ∈ TW := TW_t 143 (by decide +kernel) rfl
theorem wd_144 : Cond.fieldLink RX0 143 "TrunkRadio$State" "held" "[I" ∈ TW := TW_t 144 (by decide +kernel) rfl
theorem wd_145 : Cond.fieldLink RX4 27 "TrunkRadio$State" "lost" "[I" ∈ TW := TW_t 145 (by decide +kernel) rfl
theorem wd_146 : Cond.fieldLink RX0 37 "TrunkRadio$State" "lost" "[I" ∈ TW := TW_t 146 (by decide +kernel) rfl
theorem wd_147 : Cond.fieldLink RX5 142 "TrunkRadio$State" "lost" "[I" ∈ TW := TW_t 147 (by decide +kernel) rfl
theorem wd_148 : Cond.fieldLink RX4 39 "TrunkRadio$State" "tick" "I" ∈ TW := TW_t 148 (by decide +kernel) rfl
theorem wd_149 : Cond.fieldLink RX0 66 "TrunkRadio$State" "tick" "I" ∈ TW := TW_t 149 (by decide +kernel) rfl
theorem wd_150 : Cond.fieldLink RX5 96 "TrunkRadio$State" "tick" "I" ∈ TW := TW_t 150 (by decide +kernel) rfl
theorem wd_151 : Cond.fieldLink RX4 43 "TrunkRadio$State" "began" "I" ∈ TW := TW_t 151 (by decide +kernel) rfl
theorem wd_152 : Cond.fieldLink RX0 100 "TrunkRadio$State" "began" "I" ∈ TW := TW_t 152 (by decide +kernel) rfl
theorem wd_153 : Cond.fieldLink RX5 186 "TrunkRadio$State" "began" "I" ∈ TW := TW_t 153 (by decide +kernel) rfl
theorem wd_154 : Cond.fieldLink RX4 46 "TrunkRadio$State" "cut" "I" ∈ TW := TW_t 154 (by decide +kernel) rfl
theorem wd_155 : Cond.fieldLink RX0 119 "TrunkRadio$State" "cut" "I" ∈ TW := TW_t 155 (by decide +kernel) rfl
theorem wd_156 : Cond.fieldLink RX5 234 "TrunkRadio$State" "cut" "I" ∈ TW := TW_t 156 (by decide +kernel) rfl
theorem wd_157 : Cond.fieldLink RX4 49 "TrunkRadio$State" "gaveUp" "I" ∈ TW := TW_t 157 (by decide +kernel) rfl
theorem wd_158 : Cond.fieldLink RX0 152 "TrunkRadio$State" "gaveUp" "I" ∈ TW := TW_t 158 (by decide +kernel) rfl
theorem wd_159 : Cond.fieldLink RX5 189 "TrunkRadio$State" "gaveUp" "I" ∈ TW := TW_t 159 (by decide +kernel) rfl
theorem wd_160 : Cond.laysFinal RX4 "TrunkRadio$State" "site" "[I" ∈ TW := TW_t 160 (by decide +kernel) rfl
theorem wd_162 : Cond.laysFinal RX4 "TrunkRadio$State" "how" "[I" ∈ TW := TW_t 162 (by decide +kernel) rfl
theorem wd_164 : Cond.laysFinal RX4 "TrunkRadio$State" "since" "[I" ∈ TW := TW_t 164 (by decide +kernel) rfl
theorem wd_166 : Cond.laysFinal RX4 "TrunkRadio$State" "urgent" "[I" ∈ TW := TW_t 166 (by decide +kernel) rfl
theorem wd_168 : Cond.laysFinal RX4 "TrunkRadio$State" "held" "[I" ∈ TW := TW_t 168 (by decide +kernel) rfl
theorem wd_170 : Cond.laysFinal RX4 "TrunkRadio$State" "lost" "[I" ∈ TW := TW_t 170 (by decide +kernel) rfl
theorem wd_172 : Cond.lays RX4 "TrunkRadio$State" "tick" "I" ∈ TW := TW_t 172 (by decide +kernel) rfl
theorem wd_174 : Cond.lays RX4 "TrunkRadio$State" "began" "I" ∈ TW := TW_t 174 (by decide +kernel) rfl
theorem wd_176 : Cond.lays RX4 "TrunkRadio$State" "cut" "I" ∈ TW := TW_t 176 (by decide +kernel) rfl
theorem wd_178 : Cond.lays RX4 "TrunkRadio$State" "gaveUp" "I" ∈ TW := TW_t 178 (by decide +kernel) rfl
theorem wd_181 : Cond.classLink RX5 43 RX1 ∈ TW := TW_t 181 (by decide +kernel) rfl
theorem wd_182 : Cond.instantiable RX1 3 ∈ TW := TW_t 182 (by decide +kernel) rfl
theorem wd_183 : Cond.methodLink RX5 45 yX1_init ∈ TW := TW_t 183 (by decide +kernel) rfl
theorem wd_184 : Cond.instanceMethod yX1_init ∈ TW := TW_t 184 (by decide +kernel) rfl
set_option maxRecDepth 20000 in
theorem wd_185 : Cond.code yX1_init cX1_init 2 none ∈ TW := TW_t 185 rfl rfl
theorem wd_186 : Cond.methodLink RX1 3 objectInit ∈ TW := TW_t 186 (by decide +kernel) rfl
theorem wd_187 : Cond.classLink RX1 9 RX4 ∈ TW := TW_t 187 (by decide +kernel) rfl
theorem wd_189 : Cond.methodLink RX1 17 yX4_init ∈ TW := TW_t 189 (by decide +kernel) rfl
theorem wd_190 : Cond.fieldLink RX1 18 "TrunkRadio$History" "known" "I" ∈ TW := TW_t 190 (by decide +kernel) rfl
theorem wd_191 : Cond.fieldLink RX5 149 "TrunkRadio$History" "known" "I" ∈ TW := TW_t 191 (by decide +kernel) rfl
theorem wd_192 : Cond.fieldLink RX1 11 "TrunkRadio$History" "states" "[LTrunkRadio$State;" ∈ TW := TW_t 192 (by decide +kernel) rfl
theorem wd_193 : Cond.fieldLink RX1 22 "TrunkRadio$History" "next" "I" ∈ TW := TW_t 193 (by decide +kernel) rfl
theorem wd_194 : Cond.lays RX1 "TrunkRadio$History" "known" "I" ∈ TW := TW_t 194 (by decide +kernel) rfl
theorem wd_196 : Cond.laysFinal RX1 "TrunkRadio$History" "states" "[LTrunkRadio$State;" ∈ TW := TW_t 196 (by decide +kernel) rfl
theorem wd_198 : Cond.lays RX1 "TrunkRadio$History" "next" "I" ∈ TW := TW_t 198 (by decide +kernel) rfl
theorem wd_201 : Cond.fieldLink RX5 10 "TrunkRadio" "text" "LTrunkRadio$Reader;" ∈ TW := TW_t 201 (by decide +kernel) rfl
theorem wd_202 : Cond.fieldLink RX5 19 "TrunkRadio" "told" "LTrunkRadio$Net;" ∈ TW := TW_t 202 (by decide +kernel) rfl
theorem wd_203 : Cond.fieldLink RX5 23 "TrunkRadio" "trial" "LTrunkRadio$Net;" ∈ TW := TW_t 203 (by decide +kernel) rfl
theorem wd_204 : Cond.fieldLink RX5 29 "TrunkRadio" "air" "LTrunkRadio$Air;" ∈ TW := TW_t 204 (by decide +kernel) rfl
theorem wd_205 : Cond.fieldLink RX5 36 "TrunkRadio" "now" "LTrunkRadio$State;" ∈ TW := TW_t 205 (by decide +kernel) rfl
theorem wd_206 : Cond.fieldLink RX5 40 "TrunkRadio" "future" "LTrunkRadio$State;" ∈ TW := TW_t 206 (by decide +kernel) rfl
theorem wd_207 : Cond.fieldLink RX5 46 "TrunkRadio" "past" "LTrunkRadio$History;" ∈ TW := TW_t 207 (by decide +kernel) rfl
theorem wd_208 : Cond.fieldLink RX5 50 "TrunkRadio" "images" "[LTrunkRadio$State;" ∈ TW := TW_t 208 (by decide +kernel) rfl
theorem wd_209 : Cond.fieldLink RX5 93 "TrunkRadio" "imagesKept" "I" ∈ TW := TW_t 209 (by decide +kernel) rfl
theorem wd_210 : Cond.fieldLink RX5 54 "TrunkRadio" "seenTicks" "[I" ∈ TW := TW_t 210 (by decide +kernel) rfl
theorem wd_211 : Cond.fieldLink RX5 58 "TrunkRadio" "seenTalked" "[I" ∈ TW := TW_t 211 (by decide +kernel) rfl
theorem wd_212 : Cond.fieldLink RX5 90 "TrunkRadio" "seen" "I" ∈ TW := TW_t 212 (by decide +kernel) rfl
theorem wd_213 : Cond.fieldLink RX5 61 "TrunkRadio" "timesByRank" "[I" ∈ TW := TW_t 213 (by decide +kernel) rfl
theorem wd_214 : Cond.laysFinal RX5 "TrunkRadio" "text" "LTrunkRadio$Reader;" ∈ TW := TW_t 214 (by decide +kernel) rfl
theorem wd_216 : Cond.laysFinal RX5 "TrunkRadio" "told" "LTrunkRadio$Net;" ∈ TW := TW_t 216 (by decide +kernel) rfl
theorem wd_218 : Cond.laysFinal RX5 "TrunkRadio" "trial" "LTrunkRadio$Net;" ∈ TW := TW_t 218 (by decide +kernel) rfl
theorem wd_220 : Cond.laysFinal RX5 "TrunkRadio" "air" "LTrunkRadio$Air;" ∈ TW := TW_t 220 (by decide +kernel) rfl
theorem wd_222 : Cond.laysFinal RX5 "TrunkRadio" "now" "LTrunkRadio$State;" ∈ TW := TW_t 222 (by decide +kernel) rfl
theorem wd_224 : Cond.laysFinal RX5 "TrunkRadio" "future" "LTrunkRadio$State;" ∈ TW := TW_t 224 (by decide +kernel) rfl
theorem wd_226 : Cond.laysFinal RX5 "TrunkRadio" "past" "LTrunkRadio$History;" ∈ TW := TW_t 226 (by decide +kernel) rfl
theorem wd_228 : Cond.laysFinal RX5 "TrunkRadio" "images" "[LTrunkRadio$State;" ∈ TW := TW_t 228 (by decide +kernel) rfl
theorem wd_230 : Cond.lays RX5 "TrunkRadio" "imagesKept" "I" ∈ TW := TW_t 230 (by decide +kernel) rfl
theorem wd_232 : Cond.laysFinal RX5 "TrunkRadio" "seenTicks" "[I" ∈ TW := TW_t 232 (by decide +kernel) rfl
theorem wd_234 : Cond.laysFinal RX5 "TrunkRadio" "seenTalked" "[I" ∈ TW := TW_t 234 (by decide +kernel) rfl
theorem wd_236 : Cond.lays RX5 "TrunkRadio" "seen" "I" ∈ TW := TW_t 236 (by decide +kernel) rfl
theorem wd_238 : Cond.laysFinal RX5 "TrunkRadio" "timesByRank" "[I" ∈ TW := TW_t 238 (by decide +kernel) rfl
theorem wd_241 : Cond.methodLink RL 13 yX5_type ∈ TW := TW_t 241 (by decide +kernel) rfl
theorem wd_242 : Cond.instanceMethod yX5_type ∈ TW := TW_t 242 (by decide +kernel) rfl
theorem wd_243 : Cond.selects RX5 yX5_type yX5_type ∈ TW := TW_t 243 (by decide +kernel) rfl
set_option maxRecDepth 20000 in
theorem wd_244 : Cond.code yX5_type cX5_type 2 (some .int) ∈ TW := TW_t 244 rfl rfl
theorem wd_245 : Cond.methodLink RX5 64 yX3_append ∈ TW := TW_t 245 (by decide +kernel) rfl
theorem wd_246 : Cond.instanceMethod yX3_append ∈ TW := TW_t 246 (by decide +kernel) rfl
theorem wd_247 : Cond.selects RX3 yX3_append yX3_append ∈ TW := TW_t 247 (by decide +kernel) rfl
set_option maxRecDepth 20000 in
theorem wd_248 : Cond.code yX3_append cX3_append 2 (some .boolean) ∈ TW := TW_t 248 rfl rfl
theorem wd_249 : Cond.methodLink RL 18 yX5_clear ∈ TW := TW_t 249 (by decide +kernel) rfl
theorem wd_250 : Cond.instanceMethod yX5_clear ∈ TW := TW_t 250 (by decide +kernel) rfl
theorem wd_251 : Cond.selects RX5 yX5_clear yX5_clear ∈ TW := TW_t 251 (by decide +kernel) rfl
set_option maxRecDepth 20000 in
theorem wd_252 : Cond.code yX5_clear cX5_clear 1 (some .int) ∈ TW := TW_t 252 rfl rfl
theorem wd_253 : Cond.methodLink RX5 72 yX3_empty ∈ TW := TW_t 253 (by decide +kernel) rfl
theorem wd_254 : Cond.instanceMethod yX3_empty ∈ TW := TW_t 254 (by decide +kernel) rfl
theorem wd_255 : Cond.selects RX3 yX3_empty yX3_empty ∈ TW := TW_t 255 (by decide +kernel) rfl
set_option maxRecDepth 20000 in
theorem wd_256 : Cond.code yX3_empty cX3_empty 2 (some .int) ∈ TW := TW_t 256 rfl rfl
theorem wd_257 : Cond.methodLink RL 23 yX5_net ∈ TW := TW_t 257 (by decide +kernel) rfl
theorem wd_258 : Cond.instanceMethod yX5_net ∈ TW := TW_t 258 (by decide +kernel) rfl
theorem wd_259 : Cond.selects RX5 yX5_net yX5_net ∈ TW := TW_t 259 (by decide +kernel) rfl
set_option maxRecDepth 20000 in
theorem wd_260 : Cond.code yX5_net cX5_net 2 (some .int) ∈ TW := TW_t 260 rfl rfl
theorem wd_261 : Cond.methodLink RX5 76 yX3_readInto ∈ TW := TW_t 261 (by decide +kernel) rfl
theorem wd_262 : Cond.instanceMethod yX3_readInto ∈ TW := TW_t 262 (by decide +kernel) rfl
theorem wd_263 : Cond.selects RX3 yX3_readInto yX3_readInto ∈ TW := TW_t 263 (by decide +kernel) rfl
set_option maxRecDepth 20000 in
theorem wd_264 : Cond.code yX3_readInto cX3_readInto 3 (some .int) ∈ TW := TW_t 264 rfl rfl
theorem wd_265 : Cond.methodLink RX3 19 yX2_beginAnew ∈ TW := TW_t 265 (by decide +kernel) rfl
theorem wd_266 : Cond.methodLink RX3 37 yX3_readToken ∈ TW := TW_t 266 (by decide +kernel) rfl
theorem wd_268 : Cond.instanceMethod yX3_readToken ∈ TW := TW_t 268 (by decide +kernel) rfl
set_option maxRecDepth 20000 in
theorem wd_269 : Cond.code yX3_readToken cX3_readToken 3 none ∈ TW := TW_t 269 rfl rfl
theorem wd_270 : Cond.methodLink RX3 50 yX3_letterAt ∈ TW := TW_t 270 (by decide +kernel) rfl
theorem wd_272 : Cond.instanceMethod yX3_letterAt ∈ TW := TW_t 272 (by decide +kernel) rfl
set_option maxRecDepth 20000 in
theorem wd_273 : Cond.code yX3_letterAt cX3_letterAt 2 (some .int) ∈ TW := TW_t 273 rfl rfl
theorem wd_274 : Cond.methodLink RX3 54 yX3_isDigit ∈ TW := TW_t 274 (by decide +kernel) rfl
theorem wd_275 : Cond.static yX3_isDigit ∈ TW := TW_t 275 (by decide +kernel) rfl
set_option maxRecDepth 20000 in
theorem wd_276 : Cond.code yX3_isDigit cX3_isDigit 1 (some .boolean) ∈ TW := TW_t 276 rfl rfl
theorem wd_277 : Cond.methodLink RX3 58 yX3_readNumber ∈ TW := TW_t 277 (by decide +kernel) rfl
theorem wd_279 : Cond.instanceMethod yX3_readNumber ∈ TW := TW_t 279 (by decide +kernel) rfl
set_option maxRecDepth 20000 in
theorem wd_280 : Cond.code yX3_readNumber cX3_readNumber 2 none ∈ TW := TW_t 280 rfl rfl
theorem wd_281 : Cond.methodLink RX3 64 Lib.Math.min.name ∈ TW := TW_t 281 (by decide +kernel) rfl
theorem wd_282 : Cond.static Lib.Math.min.name ∈ TW := TW_t 282 (by decide +kernel) rfl
set_option maxRecDepth 20000 in
theorem wd_283 : Cond.code Lib.Math.min.name Lib.Math.min.code 2 (some .int) ∈ TW := TW_t 283 rfl rfl
theorem wd_284 : Cond.methodLink RX3 43 yX3_readItem ∈ TW := TW_t 284 (by decide +kernel) rfl
theorem wd_286 : Cond.instanceMethod yX3_readItem ∈ TW := TW_t 286 (by decide +kernel) rfl
set_option maxRecDepth 20000 in
theorem wd_287 : Cond.code yX3_readItem cX3_readItem 2 (some .boolean) ∈ TW := TW_t 287 rfl rfl
theorem wd_288 : Cond.methodLink RX3 70 yX3_readChannels ∈ TW := TW_t 288 (by decide +kernel) rfl
theorem wd_290 : Cond.instanceMethod yX3_readChannels ∈ TW := TW_t 290 (by decide +kernel) rfl
set_option maxRecDepth 20000 in
theorem wd_291 : Cond.code yX3_readChannels cX3_readChannels 3 (some .boolean) ∈ TW := TW_t 291 rfl rfl
theorem wd_292 : Cond.methodLink RX3 89 yX3_isNumberFrom ∈ TW := TW_t 292 (by decide +kernel) rfl
theorem wd_294 : Cond.instanceMethod yX3_isNumberFrom ∈ TW := TW_t 294 (by decide +kernel) rfl
set_option maxRecDepth 20000 in
theorem wd_295 : Cond.code yX3_isNumberFrom cX3_isNumberFrom 3 (some .boolean) ∈ TW := TW_t 295 rfl rfl
theorem wd_296 : Cond.methodLink RX3 73 yX3_isEnded ∈ TW := TW_t 296 (by decide +kernel) rfl
theorem wd_298 : Cond.instanceMethod yX3_isEnded ∈ TW := TW_t 298 (by decide +kernel) rfl
set_option maxRecDepth 20000 in
theorem wd_299 : Cond.code yX3_isEnded cX3_isEnded 1 (some .boolean) ∈ TW := TW_t 299 rfl rfl
theorem wd_300 : Cond.methodLink RX3 77 yX3_readAir ∈ TW := TW_t 300 (by decide +kernel) rfl
theorem wd_302 : Cond.instanceMethod yX3_readAir ∈ TW := TW_t 302 (by decide +kernel) rfl
set_option maxRecDepth 20000 in
theorem wd_303 : Cond.code yX3_readAir cX3_readAir 3 (some .boolean) ∈ TW := TW_t 303 rfl rfl
theorem wd_304 : Cond.methodLink RX3 80 yX3_readPatience ∈ TW := TW_t 304 (by decide +kernel) rfl
theorem wd_306 : Cond.instanceMethod yX3_readPatience ∈ TW := TW_t 306 (by decide +kernel) rfl
set_option maxRecDepth 20000 in
theorem wd_307 : Cond.code yX3_readPatience cX3_readPatience 3 (some .boolean) ∈ TW := TW_t 307 rfl rfl
theorem wd_308 : Cond.methodLink RX3 86 yX3_readRadio ∈ TW := TW_t 308 (by decide +kernel) rfl
theorem wd_310 : Cond.instanceMethod yX3_readRadio ∈ TW := TW_t 310 (by decide +kernel) rfl
set_option maxRecDepth 20000 in
theorem wd_311 : Cond.code yX3_readRadio cX3_readRadio 3 (some .boolean) ∈ TW := TW_t 311 rfl rfl
theorem wd_312 : Cond.methodLink RX5 80 yX2_copy ∈ TW := TW_t 312 (by decide +kernel) rfl
theorem wd_313 : Cond.instanceMethod yX2_copy ∈ TW := TW_t 313 (by decide +kernel) rfl
theorem wd_314 : Cond.selects RX2 yX2_copy yX2_copy ∈ TW := TW_t 314 (by decide +kernel) rfl
set_option maxRecDepth 20000 in
theorem wd_315 : Cond.code yX2_copy cX2_copy 2 none ∈ TW := TW_t 315 rfl rfl
theorem wd_316 : Cond.methodLink RX2 37 arraycopyName ∈ TW := TW_t 316 (by decide +kernel) rfl
theorem wd_317 : Cond.static arraycopyName ∈ TW := TW_t 317 (by decide +kernel) rfl
theorem wd_318 : Cond.native arraycopyName ∈ TW := TW_t 318 (by decide +kernel) rfl
theorem wd_319 : Cond.methodLink RX5 84 yX4_begin ∈ TW := TW_t 319 (by decide +kernel) rfl
theorem wd_320 : Cond.instanceMethod yX4_begin ∈ TW := TW_t 320 (by decide +kernel) rfl
theorem wd_321 : Cond.selects RX4 yX4_begin yX4_begin ∈ TW := TW_t 321 (by decide +kernel) rfl
set_option maxRecDepth 20000 in
theorem wd_322 : Cond.code yX4_begin cX4_begin 3 none ∈ TW := TW_t 322 rfl rfl
theorem wd_323 : Cond.methodLink RX4 35 yX4_rest ∈ TW := TW_t 323 (by decide +kernel) rfl
theorem wd_324 : Cond.instanceMethod yX4_rest ∈ TW := TW_t 324 (by decide +kernel) rfl
theorem wd_325 : Cond.selects RX4 yX4_rest yX4_rest ∈ TW := TW_t 325 (by decide +kernel) rfl
set_option maxRecDepth 20000 in
theorem wd_326 : Cond.code yX4_rest cX4_rest 2 none ∈ TW := TW_t 326 rfl rfl
theorem wd_327 : Cond.methodLink RX4 58 yX4_enter ∈ TW := TW_t 327 (by decide +kernel) rfl
theorem wd_328 : Cond.instanceMethod yX4_enter ∈ TW := TW_t 328 (by decide +kernel) rfl
theorem wd_329 : Cond.selects RX4 yX4_enter yX4_enter ∈ TW := TW_t 329 (by decide +kernel) rfl
set_option maxRecDepth 20000 in
theorem wd_330 : Cond.code yX4_enter cX4_enter 3 none ∈ TW := TW_t 330 rfl rfl
theorem wd_331 : Cond.methodLink RX5 87 yX1_lose ∈ TW := TW_t 331 (by decide +kernel) rfl
theorem wd_332 : Cond.instanceMethod yX1_lose ∈ TW := TW_t 332 (by decide +kernel) rfl
theorem wd_333 : Cond.selects RX1 yX1_lose yX1_lose ∈ TW := TW_t 333 (by decide +kernel) rfl
set_option maxRecDepth 20000 in
theorem wd_334 : Cond.code yX1_lose cX1_lose 1 none ∈ TW := TW_t 334 rfl rfl
theorem wd_335 : Cond.methodLink RL 27 yX5_ticks ∈ TW := TW_t 335 (by decide +kernel) rfl
theorem wd_336 : Cond.instanceMethod yX5_ticks ∈ TW := TW_t 336 (by decide +kernel) rfl
theorem wd_337 : Cond.selects RX5 yX5_ticks yX5_ticks ∈ TW := TW_t 337 (by decide +kernel) rfl
set_option maxRecDepth 20000 in
theorem wd_338 : Cond.code yX5_ticks cX5_ticks 4 (some .int) ∈ TW := TW_t 338 rfl rfl
theorem wd_339 : Cond.methodLink RX5 99 yX1_record ∈ TW := TW_t 339 (by decide +kernel) rfl
theorem wd_340 : Cond.instanceMethod yX1_record ∈ TW := TW_t 340 (by decide +kernel) rfl
theorem wd_341 : Cond.selects RX1 yX1_record yX1_record ∈ TW := TW_t 341 (by decide +kernel) rfl
set_option maxRecDepth 20000 in
theorem wd_342 : Cond.code yX1_record cX1_record 2 none ∈ TW := TW_t 342 rfl rfl
theorem wd_343 : Cond.methodLink RX1 25 yX4_copy ∈ TW := TW_t 343 (by decide +kernel) rfl
theorem wd_344 : Cond.instanceMethod yX4_copy ∈ TW := TW_t 344 (by decide +kernel) rfl
theorem wd_345 : Cond.selects RX4 yX4_copy yX4_copy ∈ TW := TW_t 345 (by decide +kernel) rfl
set_option maxRecDepth 20000 in
theorem wd_346 : Cond.code yX4_copy cX4_copy 2 none ∈ TW := TW_t 346 rfl rfl
theorem wd_347 : Cond.methodLink RX4 52 arraycopyName ∈ TW := TW_t 347 (by decide +kernel) rfl
theorem wd_348 : Cond.methodLink RX1 29 Lib.Math.min.name ∈ TW := TW_t 348 (by decide +kernel) rfl
theorem wd_349 : Cond.methodLink RX5 103 yX0_pass ∈ TW := TW_t 349 (by decide +kernel) rfl
theorem wd_350 : Cond.instanceMethod yX0_pass ∈ TW := TW_t 350 (by decide +kernel) rfl
theorem wd_351 : Cond.selects RX0 yX0_pass yX0_pass ∈ TW := TW_t 351 (by decide +kernel) rfl
set_option maxRecDepth 20000 in
theorem wd_352 : Cond.code yX0_pass cX0_pass 5 none ∈ TW := TW_t 352 rfl rfl
theorem wd_353 : Cond.methodLink RX0 23 arraycopyName ∈ TW := TW_t 353 (by decide +kernel) rfl
theorem wd_354 : Cond.methodLink RX0 29 yX4_hasControl ∈ TW := TW_t 354 (by decide +kernel) rfl
theorem wd_355 : Cond.instanceMethod yX4_hasControl ∈ TW := TW_t 355 (by decide +kernel) rfl
theorem wd_356 : Cond.selects RX4 yX4_hasControl yX4_hasControl ∈ TW := TW_t 356 (by decide +kernel) rfl
set_option maxRecDepth 20000 in
theorem wd_357 : Cond.code yX4_hasControl cX4_hasControl 2 (some .boolean) ∈ TW := TW_t 357 rfl rfl
theorem wd_358 : Cond.methodLink RX0 33 yX0_hear ∈ TW := TW_t 358 (by decide +kernel) rfl
theorem wd_359 : Cond.static yX0_hear ∈ TW := TW_t 359 (by decide +kernel) rfl
set_option maxRecDepth 20000 in
theorem wd_360 : Cond.code yX0_hear cX0_hear 5 none ∈ TW := TW_t 360 rfl rfl
theorem wd_361 : Cond.methodLink RX0 73 yX0_heardAt ∈ TW := TW_t 361 (by decide +kernel) rfl
theorem wd_362 : Cond.static yX0_heardAt ∈ TW := TW_t 362 (by decide +kernel) rfl
set_option maxRecDepth 20000 in
theorem wd_363 : Cond.code yX0_heardAt cX0_heardAt 6 (some .int) ∈ TW := TW_t 363 rfl rfl
theorem wd_364 : Cond.methodLink RX0 82 yX0_isSentAt ∈ TW := TW_t 364 (by decide +kernel) rfl
theorem wd_365 : Cond.static yX0_isSentAt ∈ TW := TW_t 365 (by decide +kernel) rfl
set_option maxRecDepth 20000 in
theorem wd_366 : Cond.code yX0_isSentAt cX0_isSentAt 3 (some .boolean) ∈ TW := TW_t 366 rfl rfl
theorem wd_367 : Cond.methodLink RX0 86 yX4_enter ∈ TW := TW_t 367 (by decide +kernel) rfl
theorem wd_368 : Cond.methodLink RX0 40 Lib.Math.min.name ∈ TW := TW_t 368 (by decide +kernel) rfl
theorem wd_369 : Cond.methodLink RX0 46 yX0_helpThemselves ∈ TW := TW_t 369 (by decide +kernel) rfl
theorem wd_370 : Cond.static yX0_helpThemselves ∈ TW := TW_t 370 (by decide +kernel) rfl
set_option maxRecDepth 20000 in
theorem wd_371 : Cond.code yX0_helpThemselves cX0_helpThemselves 4 none ∈ TW := TW_t 371 rfl rfl
theorem wd_372 : Cond.methodLink RX0 96 yX0_isSoftTaken ∈ TW := TW_t 372 (by decide +kernel) rfl
theorem wd_373 : Cond.static yX0_isSoftTaken ∈ TW := TW_t 373 (by decide +kernel) rfl
set_option maxRecDepth 20000 in
theorem wd_374 : Cond.code yX0_isSoftTaken cX0_isSoftTaken 7 (some .boolean) ∈ TW := TW_t 374 rfl rfl
theorem wd_375 : Cond.methodLink RX0 106 Lib.Math.max.name ∈ TW := TW_t 375 (by decide +kernel) rfl
theorem wd_376 : Cond.static Lib.Math.max.name ∈ TW := TW_t 376 (by decide +kernel) rfl
set_option maxRecDepth 20000 in
theorem wd_377 : Cond.code Lib.Math.max.name Lib.Math.max.code 2 (some .int) ∈ TW := TW_t 377 rfl rfl
theorem wd_378 : Cond.methodLink RX0 49 yX0_tryAgain ∈ TW := TW_t 378 (by decide +kernel) rfl
theorem wd_380 : Cond.instanceMethod yX0_tryAgain ∈ TW := TW_t 380 (by decide +kernel) rfl
set_option maxRecDepth 20000 in
theorem wd_381 : Cond.code yX0_tryAgain cX0_tryAgain 4 none ∈ TW := TW_t 381 rfl rfl
theorem wd_382 : Cond.methodLink RX0 53 yX0_cutLongTalks ∈ TW := TW_t 382 (by decide +kernel) rfl
theorem wd_384 : Cond.instanceMethod yX0_cutLongTalks ∈ TW := TW_t 384 (by decide +kernel) rfl
set_option maxRecDepth 20000 in
theorem wd_385 : Cond.code yX0_cutLongTalks cX0_cutLongTalks 4 none ∈ TW := TW_t 385 rfl rfl
theorem wd_386 : Cond.methodLink RX0 115 yX4_rest ∈ TW := TW_t 386 (by decide +kernel) rfl
theorem wd_387 : Cond.methodLink RX0 56 yX0_lineUp ∈ TW := TW_t 387 (by decide +kernel) rfl
theorem wd_388 : Cond.instanceMethod yX0_lineUp ∈ TW := TW_t 388 (by decide +kernel) rfl
theorem wd_389 : Cond.selects RX0 yX0_lineUp yX0_lineUp ∈ TW := TW_t 389 (by decide +kernel) rfl
set_option maxRecDepth 20000 in
theorem wd_390 : Cond.code yX0_lineUp cX0_lineUp 6 (some .int) ∈ TW := TW_t 390 rfl rfl
theorem wd_391 : Cond.methodLink RX0 122 yX0_isAhead ∈ TW := TW_t 391 (by decide +kernel) rfl
theorem wd_392 : Cond.static yX0_isAhead ∈ TW := TW_t 392 (by decide +kernel) rfl
set_option maxRecDepth 20000 in
theorem wd_393 : Cond.code yX0_isAhead cX0_isAhead 4 (some .boolean) ∈ TW := TW_t 393 rfl rfl
theorem wd_394 : Cond.methodLink RX0 60 yX0_serve ∈ TW := TW_t 394 (by decide +kernel) rfl
theorem wd_395 : Cond.static yX0_serve ∈ TW := TW_t 395 (by decide +kernel) rfl
set_option maxRecDepth 20000 in
theorem wd_396 : Cond.code yX0_serve cX0_serve 6 none ∈ TW := TW_t 396 rfl rfl
theorem wd_397 : Cond.methodLink RX0 129 yX4_talkerOf ∈ TW := TW_t 397 (by decide +kernel) rfl
theorem wd_398 : Cond.instanceMethod yX4_talkerOf ∈ TW := TW_t 398 (by decide +kernel) rfl
theorem wd_399 : Cond.selects RX4 yX4_talkerOf yX4_talkerOf ∈ TW := TW_t 399 (by decide +kernel) rfl
set_option maxRecDepth 20000 in
theorem wd_400 : Cond.code yX4_talkerOf cX4_talkerOf 4 (some .int) ∈ TW := TW_t 400 rfl rfl
theorem wd_401 : Cond.methodLink RX0 133 yX0_sitesNeeded ∈ TW := TW_t 401 (by decide +kernel) rfl
theorem wd_402 : Cond.static yX0_sitesNeeded ∈ TW := TW_t 402 (by decide +kernel) rfl
set_option maxRecDepth 20000 in
theorem wd_403 : Cond.code yX0_sitesNeeded cX0_sitesNeeded 6 (some .int) ∈ TW := TW_t 403 rfl rfl
theorem wd_404 : Cond.methodLink RX0 136 yX0_takeOver ∈ TW := TW_t 404 (by decide +kernel) rfl
theorem wd_405 : Cond.static yX0_takeOver ∈ TW := TW_t 405 (by decide +kernel) rfl
set_option maxRecDepth 20000 in
theorem wd_406 : Cond.code yX0_takeOver cX0_takeOver 6 none ∈ TW := TW_t 406 rfl rfl
theorem wd_407 : Cond.methodLink RX0 139 yX4_fullSites ∈ TW := TW_t 407 (by decide +kernel) rfl
theorem wd_408 : Cond.instanceMethod yX4_fullSites ∈ TW := TW_t 408 (by decide +kernel) rfl
theorem wd_409 : Cond.selects RX4 yX4_fullSites yX4_fullSites ∈ TW := TW_t 409 (by decide +kernel) rfl
set_option maxRecDepth 20000 in
theorem wd_410 : Cond.code yX4_fullSites cX4_fullSites 5 (some .int) ∈ TW := TW_t 410 rfl rfl
theorem wd_411 : Cond.methodLink RX0 146 yX0_weakestAt ∈ TW := TW_t 411 (by decide +kernel) rfl
theorem wd_412 : Cond.static yX0_weakestAt ∈ TW := TW_t 412 (by decide +kernel) rfl
set_option maxRecDepth 20000 in
theorem wd_413 : Cond.code yX0_weakestAt cX0_weakestAt 6 (some .int) ∈ TW := TW_t 413 rfl rfl
theorem wd_414 : Cond.methodLink RX0 63 yX0_giveUp ∈ TW := TW_t 414 (by decide +kernel) rfl
theorem wd_415 : Cond.static yX0_giveUp ∈ TW := TW_t 415 (by decide +kernel) rfl
set_option maxRecDepth 20000 in
theorem wd_416 : Cond.code yX0_giveUp cX0_giveUp 3 none ∈ TW := TW_t 416 rfl rfl
theorem wd_417 : Cond.methodLink RX5 110 yX4_isOnAir ∈ TW := TW_t 417 (by decide +kernel) rfl
theorem wd_418 : Cond.instanceMethod yX4_isOnAir ∈ TW := TW_t 418 (by decide +kernel) rfl
theorem wd_419 : Cond.selects RX4 yX4_isOnAir yX4_isOnAir ∈ TW := TW_t 419 (by decide +kernel) rfl
set_option maxRecDepth 20000 in
theorem wd_420 : Cond.code yX4_isOnAir cX4_isOnAir 2 (some .boolean) ∈ TW := TW_t 420 rfl rfl
theorem wd_421 : Cond.methodLink RL 31 yX5_presses ∈ TW := TW_t 421 (by decide +kernel) rfl
theorem wd_422 : Cond.instanceMethod yX5_presses ∈ TW := TW_t 422 (by decide +kernel) rfl
theorem wd_423 : Cond.selects RX5 yX5_presses yX5_presses ∈ TW := TW_t 423 (by decide +kernel) rfl
set_option maxRecDepth 20000 in
theorem wd_424 : Cond.code yX5_presses cX5_presses 3 (some .int) ∈ TW := TW_t 424 rfl rfl
theorem wd_425 : Cond.methodLink RX5 113 yX2_has ∈ TW := TW_t 425 (by decide +kernel) rfl
theorem wd_426 : Cond.instanceMethod yX2_has ∈ TW := TW_t 426 (by decide +kernel) rfl
theorem wd_427 : Cond.selects RX2 yX2_has yX2_has ∈ TW := TW_t 427 (by decide +kernel) rfl
set_option maxRecDepth 20000 in
theorem wd_428 : Cond.code yX2_has cX2_has 2 (some .boolean) ∈ TW := TW_t 428 rfl rfl
theorem wd_429 : Cond.methodLink RX5 116 yX5_isBit ∈ TW := TW_t 429 (by decide +kernel) rfl
theorem wd_430 : Cond.static yX5_isBit ∈ TW := TW_t 430 (by decide +kernel) rfl
set_option maxRecDepth 20000 in
theorem wd_431 : Cond.code yX5_isBit cX5_isBit 1 (some .boolean) ∈ TW := TW_t 431 rfl rfl
theorem wd_432 : Cond.methodLink RX5 122 yX4_enter ∈ TW := TW_t 432 (by decide +kernel) rfl
theorem wd_433 : Cond.methodLink RL 36 yX5_releases ∈ TW := TW_t 433 (by decide +kernel) rfl
theorem wd_434 : Cond.instanceMethod yX5_releases ∈ TW := TW_t 434 (by decide +kernel) rfl
theorem wd_435 : Cond.selects RX5 yX5_releases yX5_releases ∈ TW := TW_t 435 (by decide +kernel) rfl
set_option maxRecDepth 20000 in
theorem wd_436 : Cond.code yX5_releases cX5_releases 3 (some .int) ∈ TW := TW_t 436 rfl rfl
theorem wd_437 : Cond.methodLink RX5 132 yX4_rest ∈ TW := TW_t 437 (by decide +kernel) rfl
theorem wd_438 : Cond.methodLink RL 40 yX5_controls ∈ TW := TW_t 438 (by decide +kernel) rfl
theorem wd_439 : Cond.instanceMethod yX5_controls ∈ TW := TW_t 439 (by decide +kernel) rfl
theorem wd_440 : Cond.selects RX5 yX5_controls yX5_controls ∈ TW := TW_t 440 (by decide +kernel) rfl
set_option maxRecDepth 20000 in
theorem wd_441 : Cond.code yX5_controls cX5_controls 5 (some .int) ∈ TW := TW_t 441 rfl rfl
theorem wd_442 : Cond.methodLink RX5 136 yX5_isSite ∈ TW := TW_t 442 (by decide +kernel) rfl
theorem wd_443 : Cond.static yX5_isSite ∈ TW := TW_t 443 (by decide +kernel) rfl
set_option maxRecDepth 20000 in
theorem wd_444 : Cond.code yX5_isSite cX5_isSite 1 (some .boolean) ∈ TW := TW_t 444 rfl rfl
theorem wd_445 : Cond.methodLink RX5 139 yX4_hasControl ∈ TW := TW_t 445 (by decide +kernel) rfl
theorem wd_446 : Cond.methodLink RL 44 yX5_moves ∈ TW := TW_t 446 (by decide +kernel) rfl
theorem wd_447 : Cond.instanceMethod yX5_moves ∈ TW := TW_t 447 (by decide +kernel) rfl
theorem wd_448 : Cond.selects RX5 yX5_moves yX5_moves ∈ TW := TW_t 448 (by decide +kernel) rfl
set_option maxRecDepth 20000 in
theorem wd_449 : Cond.code yX5_moves cX5_moves 2 (some .int) ∈ TW := TW_t 449 rfl rfl
theorem wd_450 : Cond.methodLink RL 48 yX5_undo ∈ TW := TW_t 450 (by decide +kernel) rfl
theorem wd_451 : Cond.instanceMethod yX5_undo ∈ TW := TW_t 451 (by decide +kernel) rfl
theorem wd_452 : Cond.selects RX5 yX5_undo yX5_undo ∈ TW := TW_t 452 (by decide +kernel) rfl
set_option maxRecDepth 20000 in
theorem wd_453 : Cond.code yX5_undo cX5_undo 1 (some .int) ∈ TW := TW_t 453 rfl rfl
theorem wd_454 : Cond.methodLink RX5 145 yX1_bringBack ∈ TW := TW_t 454 (by decide +kernel) rfl
theorem wd_455 : Cond.instanceMethod yX1_bringBack ∈ TW := TW_t 455 (by decide +kernel) rfl
theorem wd_456 : Cond.selects RX1 yX1_bringBack yX1_bringBack ∈ TW := TW_t 456 (by decide +kernel) rfl
set_option maxRecDepth 20000 in
theorem wd_457 : Cond.code yX1_bringBack cX1_bringBack 2 (some .boolean) ∈ TW := TW_t 457 rfl rfl
theorem wd_458 : Cond.methodLink RL 52 yX5_radio ∈ TW := TW_t 458 (by decide +kernel) rfl
theorem wd_459 : Cond.instanceMethod yX5_radio ∈ TW := TW_t 459 (by decide +kernel) rfl
theorem wd_460 : Cond.selects RX5 yX5_radio yX5_radio ∈ TW := TW_t 460 (by decide +kernel) rfl
set_option maxRecDepth 20000 in
theorem wd_461 : Cond.code yX5_radio cX5_radio 3 (some .int) ∈ TW := TW_t 461 rfl rfl
theorem wd_462 : Cond.methodLink RL 56 yX5_site ∈ TW := TW_t 462 (by decide +kernel) rfl
theorem wd_463 : Cond.instanceMethod yX5_site ∈ TW := TW_t 463 (by decide +kernel) rfl
theorem wd_464 : Cond.selects RX5 yX5_site yX5_site ∈ TW := TW_t 464 (by decide +kernel) rfl
set_option maxRecDepth 20000 in
theorem wd_465 : Cond.code yX5_site cX5_site 3 (some .int) ∈ TW := TW_t 465 rfl rfl
theorem wd_466 : Cond.methodLink RX5 167 yX4_free ∈ TW := TW_t 466 (by decide +kernel) rfl
theorem wd_467 : Cond.instanceMethod yX4_free ∈ TW := TW_t 467 (by decide +kernel) rfl
theorem wd_468 : Cond.selects RX4 yX4_free yX4_free ∈ TW := TW_t 468 (by decide +kernel) rfl
set_option maxRecDepth 20000 in
theorem wd_469 : Cond.code yX4_free cX4_free 5 (some .int) ∈ TW := TW_t 469 rfl rfl
theorem wd_470 : Cond.methodLink RL 60 yX5_talker ∈ TW := TW_t 470 (by decide +kernel) rfl
theorem wd_471 : Cond.instanceMethod yX5_talker ∈ TW := TW_t 471 (by decide +kernel) rfl
theorem wd_472 : Cond.selects RX5 yX5_talker yX5_talker ∈ TW := TW_t 472 (by decide +kernel) rfl
set_option maxRecDepth 20000 in
theorem wd_473 : Cond.code yX5_talker cX5_talker 2 (some .int) ∈ TW := TW_t 473 rfl rfl
theorem wd_474 : Cond.methodLink RX5 171 yX4_talkerOf ∈ TW := TW_t 474 (by decide +kernel) rfl
theorem wd_475 : Cond.methodLink RL 64 yX5_queue ∈ TW := TW_t 475 (by decide +kernel) rfl
theorem wd_476 : Cond.instanceMethod yX5_queue ∈ TW := TW_t 476 (by decide +kernel) rfl
theorem wd_477 : Cond.selects RX5 yX5_queue yX5_queue ∈ TW := TW_t 477 (by decide +kernel) rfl
set_option maxRecDepth 20000 in
theorem wd_478 : Cond.code yX5_queue cX5_queue 3 (some .int) ∈ TW := TW_t 478 rfl rfl
theorem wd_479 : Cond.methodLink RX5 174 yX0_lineUp ∈ TW := TW_t 479 (by decide +kernel) rfl
theorem wd_480 : Cond.methodLink RL 68 yX5_soon ∈ TW := TW_t 480 (by decide +kernel) rfl
theorem wd_481 : Cond.instanceMethod yX5_soon ∈ TW := TW_t 481 (by decide +kernel) rfl
theorem wd_482 : Cond.selects RX5 yX5_soon yX5_soon ∈ TW := TW_t 482 (by decide +kernel) rfl
set_option maxRecDepth 20000 in
theorem wd_483 : Cond.code yX5_soon cX5_soon 3 (some .int) ∈ TW := TW_t 483 rfl rfl
theorem wd_484 : Cond.methodLink RX5 181 yX4_copy ∈ TW := TW_t 484 (by decide +kernel) rfl
theorem wd_485 : Cond.methodLink RL 72 yX5_within ∈ TW := TW_t 485 (by decide +kernel) rfl
theorem wd_486 : Cond.instanceMethod yX5_within ∈ TW := TW_t 486 (by decide +kernel) rfl
theorem wd_487 : Cond.selects RX5 yX5_within yX5_within ∈ TW := TW_t 487 (by decide +kernel) rfl
set_option maxRecDepth 20000 in
theorem wd_488 : Cond.code yX5_within cX5_within 5 (some .int) ∈ TW := TW_t 488 rfl rfl
theorem wd_489 : Cond.methodLink RX5 183 yX4_fullSites ∈ TW := TW_t 489 (by decide +kernel) rfl
theorem wd_490 : Cond.methodLink RL 76 yX5_wave ∈ TW := TW_t 490 (by decide +kernel) rfl
theorem wd_491 : Cond.instanceMethod yX5_wave ∈ TW := TW_t 491 (by decide +kernel) rfl
theorem wd_492 : Cond.selects RX5 yX5_wave yX5_wave ∈ TW := TW_t 492 (by decide +kernel) rfl
set_option maxRecDepth 20000 in
theorem wd_493 : Cond.code yX5_wave cX5_wave 6 (some .int) ∈ TW := TW_t 493 rfl rfl
theorem wd_494 : Cond.methodLink RX5 192 yX5_waveLasts ∈ TW := TW_t 494 (by decide +kernel) rfl
theorem wd_496 : Cond.instanceMethod yX5_waveLasts ∈ TW := TW_t 496 (by decide +kernel) rfl
set_option maxRecDepth 20000 in
theorem wd_497 : Cond.code yX5_waveLasts cX5_waveLasts 3 (some .int) ∈ TW := TW_t 497 rfl rfl
theorem wd_498 : Cond.methodLink RX5 237 yX4_pressIdle ∈ TW := TW_t 498 (by decide +kernel) rfl
theorem wd_499 : Cond.instanceMethod yX4_pressIdle ∈ TW := TW_t 499 (by decide +kernel) rfl
theorem wd_500 : Cond.selects RX4 yX4_pressIdle yX4_pressIdle ∈ TW := TW_t 500 (by decide +kernel) rfl
set_option maxRecDepth 20000 in
theorem wd_501 : Cond.code yX4_pressIdle cX4_pressIdle 4 none ∈ TW := TW_t 501 rfl rfl
theorem wd_502 : Cond.methodLink RX5 241 yX4_isAnyWaiting ∈ TW := TW_t 502 (by decide +kernel) rfl
theorem wd_503 : Cond.instanceMethod yX4_isAnyWaiting ∈ TW := TW_t 503 (by decide +kernel) rfl
theorem wd_504 : Cond.selects RX4 yX4_isAnyWaiting yX4_isAnyWaiting ∈ TW := TW_t 504 (by decide +kernel) rfl
set_option maxRecDepth 20000 in
theorem wd_505 : Cond.code yX4_isAnyWaiting cX4_isAnyWaiting 3 (some .boolean) ∈ TW := TW_t 505 rfl rfl
theorem wd_506 : Cond.methodLink RX5 196 Lib.Math.max.name ∈ TW := TW_t 506 (by decide +kernel) rfl
theorem wd_507 : Cond.methodLink RX5 202 yX5_isEnough ∈ TW := TW_t 507 (by decide +kernel) rfl
theorem wd_509 : Cond.instanceMethod yX5_isEnough ∈ TW := TW_t 509 (by decide +kernel) rfl
set_option maxRecDepth 20000 in
theorem wd_510 : Cond.code yX5_isEnough cX5_isEnough 3 (some .boolean) ∈ TW := TW_t 510 rfl rfl
theorem wd_511 : Cond.methodLink RL 80 yX5_odds ∈ TW := TW_t 511 (by decide +kernel) rfl
theorem wd_512 : Cond.instanceMethod yX5_odds ∈ TW := TW_t 512 (by decide +kernel) rfl
theorem wd_513 : Cond.selects RX5 yX5_odds yX5_odds ∈ TW := TW_t 513 (by decide +kernel) rfl
set_option maxRecDepth 20000 in
theorem wd_514 : Cond.code yX5_odds cX5_odds 9 (some .int) ∈ TW := TW_t 514 rfl rfl
theorem wd_515 : Cond.methodLink RX5 205 yX4_idleOnes ∈ TW := TW_t 515 (by decide +kernel) rfl
theorem wd_516 : Cond.instanceMethod yX4_idleOnes ∈ TW := TW_t 516 (by decide +kernel) rfl
theorem wd_517 : Cond.selects RX4 yX4_idleOnes yX4_idleOnes ∈ TW := TW_t 517 (by decide +kernel) rfl
set_option maxRecDepth 20000 in
theorem wd_518 : Cond.code yX4_idleOnes cX4_idleOnes 4 (some .int) ∈ TW := TW_t 518 rfl rfl
theorem wd_519 : Cond.methodLink RX5 208 yJ6_bitCount_0f7a4 ∈ TW := TW_t 519 (by decide +kernel) rfl
theorem wd_520 : Cond.static yJ6_bitCount_0f7a4 ∈ TW := TW_t 520 (by decide +kernel) rfl
set_option maxRecDepth 20000 in
theorem wd_521 : Cond.code yJ6_bitCount_0f7a4 cJ6_bitCount_0f7a4 1 (some .int) ∈ TW := TW_t 521 rfl rfl
theorem wd_522 : Cond.constant RJ6 265 (1431655765) ∈ TW := TW_t 522 (by decide +kernel) rfl
theorem wd_523 : Cond.constant RJ6 266 (858993459) ∈ TW := TW_t 523 (by decide +kernel) rfl
theorem wd_524 : Cond.constant RJ6 267 (252645135) ∈ TW := TW_t 524 (by decide +kernel) rfl
theorem wd_525 : Cond.methodLink RX5 213 yX5_power ∈ TW := TW_t 525 (by decide +kernel) rfl
theorem wd_526 : Cond.static yX5_power ∈ TW := TW_t 526 (by decide +kernel) rfl
set_option maxRecDepth 20000 in
theorem wd_527 : Cond.code yX5_power cX5_power 4 (some .int) ∈ TW := TW_t 527 rfl rfl
theorem wd_528 : Cond.methodLink RX5 216 yX5_talksAmong ∈ TW := TW_t 528 (by decide +kernel) rfl
theorem wd_530 : Cond.instanceMethod yX5_talksAmong ∈ TW := TW_t 530 (by decide +kernel) rfl
set_option maxRecDepth 20000 in
theorem wd_531 : Cond.code yX5_talksAmong cX5_talksAmong 5 (some .boolean) ∈ TW := TW_t 531 rfl rfl
theorem wd_532 : Cond.methodLink RX5 220 yX5_commonDivisor ∈ TW := TW_t 532 (by decide +kernel) rfl
theorem wd_533 : Cond.static yX5_commonDivisor ∈ TW := TW_t 533 (by decide +kernel) rfl
set_option maxRecDepth 20000 in
theorem wd_534 : Cond.code yX5_commonDivisor cX5_commonDivisor 6 (some .int) ∈ TW := TW_t 534 rfl rfl
theorem wd_535 : Cond.methodLink RL 85 yX5_sees ∈ TW := TW_t 535 (by decide +kernel) rfl
theorem wd_536 : Cond.instanceMethod yX5_sees ∈ TW := TW_t 536 (by decide +kernel) rfl
theorem wd_537 : Cond.selects RX5 yX5_sees yX5_sees ∈ TW := TW_t 537 (by decide +kernel) rfl
set_option maxRecDepth 20000 in
theorem wd_538 : Cond.code yX5_sees cX5_sees 3 (some .int) ∈ TW := TW_t 538 rfl rfl
theorem wd_539 : Cond.methodLink RL 89 yX5_forget ∈ TW := TW_t 539 (by decide +kernel) rfl
theorem wd_540 : Cond.instanceMethod yX5_forget ∈ TW := TW_t 540 (by decide +kernel) rfl
theorem wd_541 : Cond.selects RX5 yX5_forget yX5_forget ∈ TW := TW_t 541 (by decide +kernel) rfl
set_option maxRecDepth 20000 in
theorem wd_542 : Cond.code yX5_forget cX5_forget 2 (some .int) ∈ TW := TW_t 542 rfl rfl
theorem wd_543 : Cond.methodLink RL 93 yX5_ranks ∈ TW := TW_t 543 (by decide +kernel) rfl
theorem wd_544 : Cond.instanceMethod yX5_ranks ∈ TW := TW_t 544 (by decide +kernel) rfl
theorem wd_545 : Cond.selects RX5 yX5_ranks yX5_ranks ∈ TW := TW_t 545 (by decide +kernel) rfl
set_option maxRecDepth 20000 in
theorem wd_546 : Cond.code yX5_ranks cX5_ranks 2 (some .int) ∈ TW := TW_t 546 rfl rfl
theorem wd_547 : Cond.methodLink RX5 223 yX5_ranksThatFit ∈ TW := TW_t 547 (by decide +kernel) rfl
theorem wd_549 : Cond.instanceMethod yX5_ranksThatFit ∈ TW := TW_t 549 (by decide +kernel) rfl
set_option maxRecDepth 20000 in
theorem wd_550 : Cond.code yX5_ranksThatFit cX5_ranksThatFit 4 (some .int) ∈ TW := TW_t 550 rfl rfl
theorem wd_551 : Cond.methodLink RX5 245 yX5_timesOnAir ∈ TW := TW_t 551 (by decide +kernel) rfl
theorem wd_553 : Cond.instanceMethod yX5_timesOnAir ∈ TW := TW_t 553 (by decide +kernel) rfl
set_option maxRecDepth 20000 in
theorem wd_554 : Cond.code yX5_timesOnAir cX5_timesOnAir 4 (some .int) ∈ TW := TW_t 554 rfl rfl
theorem wd_555 : Cond.methodLink RX5 248 yX5_agreesWithSeen ∈ TW := TW_t 555 (by decide +kernel) rfl
theorem wd_557 : Cond.instanceMethod yX5_agreesWithSeen ∈ TW := TW_t 557 (by decide +kernel) rfl
set_option maxRecDepth 20000 in
theorem wd_558 : Cond.code yX5_agreesWithSeen cX5_agreesWithSeen 3 (some .boolean) ∈ TW := TW_t 558 rfl rfl
theorem wd_559 : Cond.methodLink RL 97 yX5_look ∈ TW := TW_t 559 (by decide +kernel) rfl
theorem wd_560 : Cond.instanceMethod yX5_look ∈ TW := TW_t 560 (by decide +kernel) rfl
theorem wd_561 : Cond.selects RX5 yX5_look yX5_look ∈ TW := TW_t 561 (by decide +kernel) rfl
set_option maxRecDepth 20000 in
theorem wd_562 : Cond.code yX5_look cX5_look 9 (some .int) ∈ TW := TW_t 562 rfl rfl
theorem wd_563 : Cond.methodLink RX5 226 yX5_ranksOnAir ∈ TW := TW_t 563 (by decide +kernel) rfl
theorem wd_565 : Cond.instanceMethod yX5_ranksOnAir ∈ TW := TW_t 565 (by decide +kernel) rfl
set_option maxRecDepth 20000 in
theorem wd_566 : Cond.code yX5_ranksOnAir cX5_ranksOnAir 5 (some .int) ∈ TW := TW_t 566 rfl rfl
theorem wd_567 : Cond.methodLink RL 101 yX5_keep ∈ TW := TW_t 567 (by decide +kernel) rfl
theorem wd_568 : Cond.instanceMethod yX5_keep ∈ TW := TW_t 568 (by decide +kernel) rfl
theorem wd_569 : Cond.selects RX5 yX5_keep yX5_keep ∈ TW := TW_t 569 (by decide +kernel) rfl
set_option maxRecDepth 20000 in
theorem wd_570 : Cond.code yX5_keep cX5_keep 2 (some .int) ∈ TW := TW_t 570 rfl rfl
theorem wd_571 : Cond.methodLink RL 105 yX5_back ∈ TW := TW_t 571 (by decide +kernel) rfl
theorem wd_572 : Cond.instanceMethod yX5_back ∈ TW := TW_t 572 (by decide +kernel) rfl
theorem wd_573 : Cond.selects RX5 yX5_back yX5_back ∈ TW := TW_t 573 (by decide +kernel) rfl
set_option maxRecDepth 20000 in
theorem wd_574 : Cond.code yX5_back cX5_back 2 (some .int) ∈ TW := TW_t 574 rfl rfl
theorem wd_575 : Cond.methodLink RL 109 yX5_count ∈ TW := TW_t 575 (by decide +kernel) rfl
theorem wd_576 : Cond.instanceMethod yX5_count ∈ TW := TW_t 576 (by decide +kernel) rfl
theorem wd_577 : Cond.selects RX5 yX5_count yX5_count ∈ TW := TW_t 577 (by decide +kernel) rfl
set_option maxRecDepth 20000 in
theorem wd_578 : Cond.code yX5_count cX5_count 2 (some .int) ∈ TW := TW_t 578 rfl rfl
theorem wd_579 : Cond.classLink RL 10 RX6 ∈ TW := TW_t 579 (by decide +kernel) rfl
theorem wd_580 : Cond.instantiable RX6 25 ∈ TW := TW_t 580 (by decide +kernel) rfl
theorem wd_581 : Cond.methodLink RL 12 yX6_init ∈ TW := TW_t 581 (by decide +kernel) rfl
theorem wd_582 : Cond.instanceMethod yX6_init ∈ TW := TW_t 582 (by decide +kernel) rfl
set_option maxRecDepth 20000 in
theorem wd_583 : Cond.code yX6_init cX6_init 1 none ∈ TW := TW_t 583 rfl rfl
theorem wd_584 : Cond.methodLink RX6 1 objectInit ∈ TW := TW_t 584 (by decide +kernel) rfl
theorem wd_585 : Cond.methodLink RX6 53 yX6_begins ∈ TW := TW_t 585 (by decide +kernel) rfl
theorem wd_587 : Cond.instanceMethod yX6_begins ∈ TW := TW_t 587 (by decide +kernel) rfl
set_option maxRecDepth 20000 in
theorem wd_588 : Cond.code yX6_begins cX6_begins 2 none ∈ TW := TW_t 588 rfl rfl
theorem wd_589 : Cond.methodLink RX6 56 yX6_settles ∈ TW := TW_t 589 (by decide +kernel) rfl
theorem wd_591 : Cond.instanceMethod yX6_settles ∈ TW := TW_t 591 (by decide +kernel) rfl
set_option maxRecDepth 20000 in
theorem wd_592 : Cond.code yX6_settles cX6_settles 2 none ∈ TW := TW_t 592 rfl rfl
theorem wd_593 : Cond.methodLink RX6 117 yX6_copies ∈ TW := TW_t 593 (by decide +kernel) rfl
theorem wd_594 : Cond.static yX6_copies ∈ TW := TW_t 594 (by decide +kernel) rfl
set_option maxRecDepth 20000 in
theorem wd_595 : Cond.code yX6_copies cX6_copies 3 none ∈ TW := TW_t 595 rfl rfl
theorem wd_596 : Cond.fieldLink RX6 59 "TrunkRadioModel" "thrown" "I" ∈ TW := TW_t 596 (by decide +kernel) rfl
theorem wd_597 : Cond.fieldLink RX6 7 "TrunkRadioModel" "text" "[I" ∈ TW := TW_t 597 (by decide +kernel) rfl
theorem wd_598 : Cond.fieldLink RX6 67 "TrunkRadioModel" "typed" "I" ∈ TW := TW_t 598 (by decide +kernel) rfl
theorem wd_599 : Cond.fieldLink RX6 70 "TrunkRadioModel" "spot" "I" ∈ TW := TW_t 599 (by decide +kernel) rfl
theorem wd_600 : Cond.fieldLink RX6 80 "TrunkRadioModel" "token" "I" ∈ TW := TW_t 600 (by decide +kernel) rfl
theorem wd_601 : Cond.fieldLink RX6 77 "TrunkRadioModel" "place" "I" ∈ TW := TW_t 601 (by decide +kernel) rfl
theorem wd_602 : Cond.fieldLink RX6 83 "TrunkRadioModel" "value" "I" ∈ TW := TW_t 602 (by decide +kernel) rfl
theorem wd_603 : Cond.fieldLink RX6 86 "TrunkRadioModel" "fault" "I" ∈ TW := TW_t 603 (by decide +kernel) rfl
theorem wd_604 : Cond.fieldLink RX6 100 "TrunkRadioModel" "met" "I" ∈ TW := TW_t 604 (by decide +kernel) rfl
theorem wd_605 : Cond.fieldLink RX6 13 "TrunkRadioModel" "told" "[I" ∈ TW := TW_t 605 (by decide +kernel) rfl
theorem wd_606 : Cond.fieldLink RX6 16 "TrunkRadioModel" "draft" "[I" ∈ TW := TW_t 606 (by decide +kernel) rfl
theorem wd_607 : Cond.fieldLink RX6 19 "TrunkRadioModel" "draftNow" "[I" ∈ TW := TW_t 607 (by decide +kernel) rfl
theorem wd_608 : Cond.fieldLink RX6 22 "TrunkRadioModel" "s" "[I" ∈ TW := TW_t 608 (by decide +kernel) rfl
theorem wd_609 : Cond.fieldLink RX6 25 "TrunkRadioModel" "w" "[I" ∈ TW := TW_t 609 (by decide +kernel) rfl
theorem wd_610 : Cond.fieldLink RX6 28 "TrunkRadioModel" "undos" "[I" ∈ TW := TW_t 610 (by decide +kernel) rfl
theorem wd_611 : Cond.fieldLink RX6 124 "TrunkRadioModel" "undoMany" "I" ∈ TW := TW_t 611 (by decide +kernel) rfl
theorem wd_612 : Cond.fieldLink RX6 31 "TrunkRadioModel" "kept" "[I" ∈ TW := TW_t 612 (by decide +kernel) rfl
theorem wd_613 : Cond.fieldLink RX6 34 "TrunkRadioModel" "isKept" "[Z" ∈ TW := TW_t 613 (by decide +kernel) rfl
theorem wd_614 : Cond.fieldLink RX6 38 "TrunkRadioModel" "seenIn" "[I" ∈ TW := TW_t 614 (by decide +kernel) rfl
theorem wd_615 : Cond.fieldLink RX6 41 "TrunkRadioModel" "seenIs" "[I" ∈ TW := TW_t 615 (by decide +kernel) rfl
theorem wd_616 : Cond.fieldLink RX6 121 "TrunkRadioModel" "seenMany" "I" ∈ TW := TW_t 616 (by decide +kernel) rfl
theorem wd_617 : Cond.fieldLink RX6 44 "TrunkRadioModel" "line" "[I" ∈ TW := TW_t 617 (by decide +kernel) rfl
theorem wd_618 : Cond.fieldLink RX6 143 "TrunkRadioModel" "lineMany" "I" ∈ TW := TW_t 618 (by decide +kernel) rfl
theorem wd_619 : Cond.fieldLink RX6 47 "TrunkRadioModel" "was" "[I" ∈ TW := TW_t 619 (by decide +kernel) rfl
theorem wd_620 : Cond.fieldLink RX6 50 "TrunkRadioModel" "by" "[I" ∈ TW := TW_t 620 (by decide +kernel) rfl
theorem wd_621 : Cond.lays RX6 "TrunkRadioModel" "thrown" "I" ∈ TW := TW_t 621 (by decide +kernel) rfl
theorem wd_623 : Cond.laysFinal RX6 "TrunkRadioModel" "text" "[I" ∈ TW := TW_t 623 (by decide +kernel) rfl
theorem wd_625 : Cond.lays RX6 "TrunkRadioModel" "typed" "I" ∈ TW := TW_t 625 (by decide +kernel) rfl
theorem wd_627 : Cond.lays RX6 "TrunkRadioModel" "spot" "I" ∈ TW := TW_t 627 (by decide +kernel) rfl
theorem wd_629 : Cond.lays RX6 "TrunkRadioModel" "token" "I" ∈ TW := TW_t 629 (by decide +kernel) rfl
theorem wd_631 : Cond.lays RX6 "TrunkRadioModel" "place" "I" ∈ TW := TW_t 631 (by decide +kernel) rfl
theorem wd_633 : Cond.lays RX6 "TrunkRadioModel" "value" "I" ∈ TW := TW_t 633 (by decide +kernel) rfl
theorem wd_635 : Cond.lays RX6 "TrunkRadioModel" "fault" "I" ∈ TW := TW_t 635 (by decide +kernel) rfl
theorem wd_637 : Cond.lays RX6 "TrunkRadioModel" "met" "I" ∈ TW := TW_t 637 (by decide +kernel) rfl
theorem wd_639 : Cond.laysFinal RX6 "TrunkRadioModel" "told" "[I" ∈ TW := TW_t 639 (by decide +kernel) rfl
theorem wd_641 : Cond.laysFinal RX6 "TrunkRadioModel" "draft" "[I" ∈ TW := TW_t 641 (by decide +kernel) rfl
theorem wd_643 : Cond.laysFinal RX6 "TrunkRadioModel" "draftNow" "[I" ∈ TW := TW_t 643 (by decide +kernel) rfl
theorem wd_645 : Cond.laysFinal RX6 "TrunkRadioModel" "s" "[I" ∈ TW := TW_t 645 (by decide +kernel) rfl
theorem wd_647 : Cond.laysFinal RX6 "TrunkRadioModel" "w" "[I" ∈ TW := TW_t 647 (by decide +kernel) rfl
theorem wd_649 : Cond.laysFinal RX6 "TrunkRadioModel" "undos" "[I" ∈ TW := TW_t 649 (by decide +kernel) rfl
theorem wd_651 : Cond.lays RX6 "TrunkRadioModel" "undoMany" "I" ∈ TW := TW_t 651 (by decide +kernel) rfl
theorem wd_653 : Cond.laysFinal RX6 "TrunkRadioModel" "kept" "[I" ∈ TW := TW_t 653 (by decide +kernel) rfl
theorem wd_655 : Cond.laysFinal RX6 "TrunkRadioModel" "isKept" "[Z" ∈ TW := TW_t 655 (by decide +kernel) rfl
theorem wd_657 : Cond.laysFinal RX6 "TrunkRadioModel" "seenIn" "[I" ∈ TW := TW_t 657 (by decide +kernel) rfl
theorem wd_659 : Cond.laysFinal RX6 "TrunkRadioModel" "seenIs" "[I" ∈ TW := TW_t 659 (by decide +kernel) rfl
theorem wd_661 : Cond.lays RX6 "TrunkRadioModel" "seenMany" "I" ∈ TW := TW_t 661 (by decide +kernel) rfl
theorem wd_663 : Cond.laysFinal RX6 "TrunkRadioModel" "line" "[I" ∈ TW := TW_t 663 (by decide +kernel) rfl
theorem wd_665 : Cond.lays RX6 "TrunkRadioModel" "lineMany" "I" ∈ TW := TW_t 665 (by decide +kernel) rfl
theorem wd_667 : Cond.laysFinal RX6 "TrunkRadioModel" "was" "[I" ∈ TW := TW_t 667 (by decide +kernel) rfl
theorem wd_669 : Cond.laysFinal RX6 "TrunkRadioModel" "by" "[I" ∈ TW := TW_t 669 (by decide +kernel) rfl
theorem wd_672 : Cond.arrayClass .boolean ∈ TW := TW_t 672 (by decide +kernel) rfl
theorem wd_673 : Cond.methodLink RL 17 yX6_type ∈ TW := TW_t 673 (by decide +kernel) rfl
theorem wd_674 : Cond.instanceMethod yX6_type ∈ TW := TW_t 674 (by decide +kernel) rfl
theorem wd_675 : Cond.selects RX6 yX6_type yX6_type ∈ TW := TW_t 675 (by decide +kernel) rfl
set_option maxRecDepth 20000 in
theorem wd_676 : Cond.code yX6_type cX6_type 2 (some .int) ∈ TW := TW_t 676 rfl rfl
theorem wd_677 : Cond.methodLink RX6 63 yX6_in ∈ TW := TW_t 677 (by decide +kernel) rfl
theorem wd_678 : Cond.static yX6_in ∈ TW := TW_t 678 (by decide +kernel) rfl
set_option maxRecDepth 20000 in
theorem wd_679 : Cond.code yX6_in cX6_in 3 (some .boolean) ∈ TW := TW_t 679 rfl rfl
theorem wd_680 : Cond.methodLink RL 22 yX6_clear ∈ TW := TW_t 680 (by decide +kernel) rfl
theorem wd_681 : Cond.instanceMethod yX6_clear ∈ TW := TW_t 681 (by decide +kernel) rfl
theorem wd_682 : Cond.selects RX6 yX6_clear yX6_clear ∈ TW := TW_t 682 (by decide +kernel) rfl
set_option maxRecDepth 20000 in
theorem wd_683 : Cond.code yX6_clear cX6_clear 2 (some .int) ∈ TW := TW_t 683 rfl rfl
theorem wd_684 : Cond.methodLink RL 26 yX6_net ∈ TW := TW_t 684 (by decide +kernel) rfl
theorem wd_685 : Cond.instanceMethod yX6_net ∈ TW := TW_t 685 (by decide +kernel) rfl
theorem wd_686 : Cond.selects RX6 yX6_net yX6_net ∈ TW := TW_t 686 (by decide +kernel) rfl
set_option maxRecDepth 20000 in
theorem wd_687 : Cond.code yX6_net cX6_net 3 (some .int) ∈ TW := TW_t 687 rfl rfl
theorem wd_688 : Cond.methodLink RX6 93 yX6_advances ∈ TW := TW_t 688 (by decide +kernel) rfl
theorem wd_690 : Cond.instanceMethod yX6_advances ∈ TW := TW_t 690 (by decide +kernel) rfl
set_option maxRecDepth 20000 in
theorem wd_691 : Cond.code yX6_advances cX6_advances 2 none ∈ TW := TW_t 691 rfl rfl
theorem wd_692 : Cond.methodLink RX6 73 yX6_letterAt ∈ TW := TW_t 692 (by decide +kernel) rfl
theorem wd_694 : Cond.instanceMethod yX6_letterAt ∈ TW := TW_t 694 (by decide +kernel) rfl
set_option maxRecDepth 20000 in
theorem wd_695 : Cond.code yX6_letterAt cX6_letterAt 2 (some .int) ∈ TW := TW_t 695 rfl rfl
theorem wd_696 : Cond.methodLink RX6 89 yX6_isWell ∈ TW := TW_t 696 (by decide +kernel) rfl
theorem wd_698 : Cond.instanceMethod yX6_isWell ∈ TW := TW_t 698 (by decide +kernel) rfl
set_option maxRecDepth 20000 in
theorem wd_699 : Cond.code yX6_isWell cX6_isWell 1 (some .boolean) ∈ TW := TW_t 699 rfl rfl
theorem wd_700 : Cond.methodLink RX6 110 yX6_mayBegin ∈ TW := TW_t 700 (by decide +kernel) rfl
theorem wd_702 : Cond.instanceMethod yX6_mayBegin ∈ TW := TW_t 702 (by decide +kernel) rfl
set_option maxRecDepth 20000 in
theorem wd_703 : Cond.code yX6_mayBegin cX6_mayBegin 1 (some .boolean) ∈ TW := TW_t 703 rfl rfl
theorem wd_704 : Cond.methodLink RX6 103 yX6_bitOf ∈ TW := TW_t 704 (by decide +kernel) rfl
theorem wd_705 : Cond.static yX6_bitOf ∈ TW := TW_t 705 (by decide +kernel) rfl
set_option maxRecDepth 20000 in
theorem wd_706 : Cond.code yX6_bitOf cX6_bitOf 1 (some .int) ∈ TW := TW_t 706 rfl rfl
theorem wd_707 : Cond.methodLink RX6 96 yX6_takes ∈ TW := TW_t 707 (by decide +kernel) rfl
theorem wd_709 : Cond.instanceMethod yX6_takes ∈ TW := TW_t 709 (by decide +kernel) rfl
set_option maxRecDepth 20000 in
theorem wd_710 : Cond.code yX6_takes cX6_takes 3 (some .int) ∈ TW := TW_t 710 rfl rfl
theorem wd_711 : Cond.methodLink RX6 113 yX6_readsItem ∈ TW := TW_t 711 (by decide +kernel) rfl
theorem wd_713 : Cond.instanceMethod yX6_readsItem ∈ TW := TW_t 713 (by decide +kernel) rfl
set_option maxRecDepth 20000 in
theorem wd_714 : Cond.code yX6_readsItem cX6_readsItem 3 none ∈ TW := TW_t 714 rfl rfl
theorem wd_715 : Cond.methodLink RX6 106 yX6_number ∈ TW := TW_t 715 (by decide +kernel) rfl
theorem wd_717 : Cond.instanceMethod yX6_number ∈ TW := TW_t 717 (by decide +kernel) rfl
set_option maxRecDepth 20000 in
theorem wd_718 : Cond.code yX6_number cX6_number 3 (some .int) ∈ TW := TW_t 718 rfl rfl
theorem wd_719 : Cond.methodLink RL 30 yX6_ticks ∈ TW := TW_t 719 (by decide +kernel) rfl
theorem wd_720 : Cond.instanceMethod yX6_ticks ∈ TW := TW_t 720 (by decide +kernel) rfl
theorem wd_721 : Cond.selects RX6 yX6_ticks yX6_ticks ∈ TW := TW_t 721 (by decide +kernel) rfl
set_option maxRecDepth 20000 in
theorem wd_722 : Cond.code yX6_ticks cX6_ticks 4 (some .int) ∈ TW := TW_t 722 rfl rfl
theorem wd_723 : Cond.methodLink RX6 185 yX6_notes ∈ TW := TW_t 723 (by decide +kernel) rfl
theorem wd_725 : Cond.instanceMethod yX6_notes ∈ TW := TW_t 725 (by decide +kernel) rfl
set_option maxRecDepth 20000 in
theorem wd_726 : Cond.code yX6_notes cX6_notes 2 none ∈ TW := TW_t 726 rfl rfl
theorem wd_727 : Cond.methodLink RX6 188 yX6_goes ∈ TW := TW_t 727 (by decide +kernel) rfl
theorem wd_729 : Cond.instanceMethod yX6_goes ∈ TW := TW_t 729 (by decide +kernel) rfl
set_option maxRecDepth 20000 in
theorem wd_730 : Cond.code yX6_goes cX6_goes 3 none ∈ TW := TW_t 730 rfl rfl
theorem wd_731 : Cond.methodLink RX6 172 yX6_controls2 ∈ TW := TW_t 731 (by decide +kernel) rfl
theorem wd_733 : Cond.instanceMethod yX6_controls2 ∈ TW := TW_t 733 (by decide +kernel) rfl
set_option maxRecDepth 20000 in
theorem wd_734 : Cond.code yX6_controls2 cX6_controls2 5 none ∈ TW := TW_t 734 rfl rfl
theorem wd_735 : Cond.methodLink RX6 131 yX6_heardAt ∈ TW := TW_t 735 (by decide +kernel) rfl
theorem wd_737 : Cond.instanceMethod yX6_heardAt ∈ TW := TW_t 737 (by decide +kernel) rfl
set_option maxRecDepth 20000 in
theorem wd_738 : Cond.code yX6_heardAt cX6_heardAt 7 (some .int) ∈ TW := TW_t 738 rfl rfl
theorem wd_739 : Cond.methodLink RX6 127 yX6_isSentAt ∈ TW := TW_t 739 (by decide +kernel) rfl
theorem wd_741 : Cond.instanceMethod yX6_isSentAt ∈ TW := TW_t 741 (by decide +kernel) rfl
set_option maxRecDepth 20000 in
theorem wd_742 : Cond.code yX6_isSentAt cX6_isSentAt 4 (some .boolean) ∈ TW := TW_t 742 rfl rfl
theorem wd_743 : Cond.methodLink RX6 135 yX6_becomes ∈ TW := TW_t 743 (by decide +kernel) rfl
theorem wd_744 : Cond.static yX6_becomes ∈ TW := TW_t 744 (by decide +kernel) rfl
set_option maxRecDepth 20000 in
theorem wd_745 : Cond.code yX6_becomes cX6_becomes 4 none ∈ TW := TW_t 745 rfl rfl
theorem wd_746 : Cond.methodLink RX6 175 yX6_helpsItself ∈ TW := TW_t 746 (by decide +kernel) rfl
theorem wd_748 : Cond.instanceMethod yX6_helpsItself ∈ TW := TW_t 748 (by decide +kernel) rfl
set_option maxRecDepth 20000 in
theorem wd_749 : Cond.code yX6_helpsItself cX6_helpsItself 8 none ∈ TW := TW_t 749 rfl rfl
theorem wd_750 : Cond.methodLink RX6 155 yX6_rests ∈ TW := TW_t 750 (by decide +kernel) rfl
theorem wd_751 : Cond.static yX6_rests ∈ TW := TW_t 751 (by decide +kernel) rfl
set_option maxRecDepth 20000 in
theorem wd_752 : Cond.code yX6_rests cX6_rests 2 none ∈ TW := TW_t 752 rfl rfl
theorem wd_753 : Cond.methodLink RX6 178 yX6_lines ∈ TW := TW_t 753 (by decide +kernel) rfl
theorem wd_755 : Cond.instanceMethod yX6_lines ∈ TW := TW_t 755 (by decide +kernel) rfl
set_option maxRecDepth 20000 in
theorem wd_756 : Cond.code yX6_lines cX6_lines 4 none ∈ TW := TW_t 756 rfl rfl
theorem wd_757 : Cond.methodLink RX6 146 yX6_isAhead ∈ TW := TW_t 757 (by decide +kernel) rfl
theorem wd_759 : Cond.instanceMethod yX6_isAhead ∈ TW := TW_t 759 (by decide +kernel) rfl
set_option maxRecDepth 20000 in
theorem wd_760 : Cond.code yX6_isAhead cX6_isAhead 6 (some .boolean) ∈ TW := TW_t 760 rfl rfl
theorem wd_761 : Cond.methodLink RX6 182 yX6_serves ∈ TW := TW_t 761 (by decide +kernel) rfl
theorem wd_763 : Cond.instanceMethod yX6_serves ∈ TW := TW_t 763 (by decide +kernel) rfl
set_option maxRecDepth 20000 in
theorem wd_764 : Cond.code yX6_serves cX6_serves 5 none ∈ TW := TW_t 764 rfl rfl
theorem wd_765 : Cond.methodLink RX6 159 yX6_talkerOf ∈ TW := TW_t 765 (by decide +kernel) rfl
theorem wd_767 : Cond.instanceMethod yX6_talkerOf ∈ TW := TW_t 767 (by decide +kernel) rfl
set_option maxRecDepth 20000 in
theorem wd_768 : Cond.code yX6_talkerOf cX6_talkerOf 5 (some .int) ∈ TW := TW_t 768 rfl rfl
theorem wd_769 : Cond.methodLink RX6 162 yX6_neededBy ∈ TW := TW_t 769 (by decide +kernel) rfl
theorem wd_771 : Cond.instanceMethod yX6_neededBy ∈ TW := TW_t 771 (by decide +kernel) rfl
set_option maxRecDepth 20000 in
theorem wd_772 : Cond.code yX6_neededBy cX6_neededBy 6 (some .int) ∈ TW := TW_t 772 rfl rfl
theorem wd_773 : Cond.methodLink RX6 165 yX6_isFree ∈ TW := TW_t 773 (by decide +kernel) rfl
theorem wd_775 : Cond.instanceMethod yX6_isFree ∈ TW := TW_t 775 (by decide +kernel) rfl
set_option maxRecDepth 20000 in
theorem wd_776 : Cond.code yX6_isFree cX6_isFree 3 (some .boolean) ∈ TW := TW_t 776 rfl rfl
theorem wd_777 : Cond.methodLink RX6 139 yX6_has ∈ TW := TW_t 777 (by decide +kernel) rfl
theorem wd_778 : Cond.static yX6_has ∈ TW := TW_t 778 (by decide +kernel) rfl
set_option maxRecDepth 20000 in
theorem wd_779 : Cond.code yX6_has cX6_has 2 (some .boolean) ∈ TW := TW_t 779 rfl rfl
theorem wd_780 : Cond.methodLink RX6 149 yX6_freeAt ∈ TW := TW_t 780 (by decide +kernel) rfl
theorem wd_782 : Cond.instanceMethod yX6_freeAt ∈ TW := TW_t 782 (by decide +kernel) rfl
set_option maxRecDepth 20000 in
theorem wd_783 : Cond.code yX6_freeAt cX6_freeAt 5 (some .int) ∈ TW := TW_t 783 rfl rfl
theorem wd_784 : Cond.methodLink RX6 169 yX6_takesOver ∈ TW := TW_t 784 (by decide +kernel) rfl
theorem wd_786 : Cond.instanceMethod yX6_takesOver ∈ TW := TW_t 786 (by decide +kernel) rfl
set_option maxRecDepth 20000 in
theorem wd_787 : Cond.code yX6_takesOver cX6_takesOver 5 none ∈ TW := TW_t 787 rfl rfl
theorem wd_788 : Cond.methodLink RX6 152 yX6_leastAt ∈ TW := TW_t 788 (by decide +kernel) rfl
theorem wd_790 : Cond.instanceMethod yX6_leastAt ∈ TW := TW_t 790 (by decide +kernel) rfl
set_option maxRecDepth 20000 in
theorem wd_791 : Cond.code yX6_leastAt cX6_leastAt 6 (some .int) ∈ TW := TW_t 791 rfl rfl
theorem wd_792 : Cond.methodLink RX6 191 yX6_isOn ∈ TW := TW_t 792 (by decide +kernel) rfl
theorem wd_794 : Cond.instanceMethod yX6_isOn ∈ TW := TW_t 794 (by decide +kernel) rfl
set_option maxRecDepth 20000 in
theorem wd_795 : Cond.code yX6_isOn cX6_isOn 3 (some .boolean) ∈ TW := TW_t 795 rfl rfl
theorem wd_796 : Cond.methodLink RL 35 yX6_presses ∈ TW := TW_t 796 (by decide +kernel) rfl
theorem wd_797 : Cond.instanceMethod yX6_presses ∈ TW := TW_t 797 (by decide +kernel) rfl
theorem wd_798 : Cond.selects RX6 yX6_presses yX6_presses ∈ TW := TW_t 798 (by decide +kernel) rfl
set_option maxRecDepth 20000 in
theorem wd_799 : Cond.code yX6_presses cX6_presses 3 (some .int) ∈ TW := TW_t 799 rfl rfl
theorem wd_800 : Cond.methodLink RX6 194 yX6_isRadio ∈ TW := TW_t 800 (by decide +kernel) rfl
theorem wd_802 : Cond.instanceMethod yX6_isRadio ∈ TW := TW_t 802 (by decide +kernel) rfl
set_option maxRecDepth 20000 in
theorem wd_803 : Cond.code yX6_isRadio cX6_isRadio 2 (some .boolean) ∈ TW := TW_t 803 rfl rfl
theorem wd_804 : Cond.methodLink RL 39 yX6_releases ∈ TW := TW_t 804 (by decide +kernel) rfl
theorem wd_805 : Cond.instanceMethod yX6_releases ∈ TW := TW_t 805 (by decide +kernel) rfl
theorem wd_806 : Cond.selects RX6 yX6_releases yX6_releases ∈ TW := TW_t 806 (by decide +kernel) rfl
set_option maxRecDepth 20000 in
theorem wd_807 : Cond.code yX6_releases cX6_releases 3 (some .int) ∈ TW := TW_t 807 rfl rfl
theorem wd_808 : Cond.methodLink RL 43 yX6_controls ∈ TW := TW_t 808 (by decide +kernel) rfl
theorem wd_809 : Cond.instanceMethod yX6_controls ∈ TW := TW_t 809 (by decide +kernel) rfl
theorem wd_810 : Cond.selects RX6 yX6_controls yX6_controls ∈ TW := TW_t 810 (by decide +kernel) rfl
set_option maxRecDepth 20000 in
theorem wd_811 : Cond.code yX6_controls cX6_controls 4 (some .int) ∈ TW := TW_t 811 rfl rfl
theorem wd_812 : Cond.methodLink RL 47 yX6_moves ∈ TW := TW_t 812 (by decide +kernel) rfl
theorem wd_813 : Cond.instanceMethod yX6_moves ∈ TW := TW_t 813 (by decide +kernel) rfl
theorem wd_814 : Cond.selects RX6 yX6_moves yX6_moves ∈ TW := TW_t 814 (by decide +kernel) rfl
set_option maxRecDepth 20000 in
theorem wd_815 : Cond.code yX6_moves cX6_moves 2 (some .int) ∈ TW := TW_t 815 rfl rfl
theorem wd_816 : Cond.methodLink RL 51 yX6_undo ∈ TW := TW_t 816 (by decide +kernel) rfl
theorem wd_817 : Cond.instanceMethod yX6_undo ∈ TW := TW_t 817 (by decide +kernel) rfl
theorem wd_818 : Cond.selects RX6 yX6_undo yX6_undo ∈ TW := TW_t 818 (by decide +kernel) rfl
set_option maxRecDepth 20000 in
theorem wd_819 : Cond.code yX6_undo cX6_undo 2 (some .int) ∈ TW := TW_t 819 rfl rfl
theorem wd_820 : Cond.methodLink RL 55 yX6_radio ∈ TW := TW_t 820 (by decide +kernel) rfl
theorem wd_821 : Cond.instanceMethod yX6_radio ∈ TW := TW_t 821 (by decide +kernel) rfl
theorem wd_822 : Cond.selects RX6 yX6_radio yX6_radio ∈ TW := TW_t 822 (by decide +kernel) rfl
set_option maxRecDepth 20000 in
theorem wd_823 : Cond.code yX6_radio cX6_radio 3 (some .int) ∈ TW := TW_t 823 rfl rfl
theorem wd_824 : Cond.methodLink RL 59 yX6_site ∈ TW := TW_t 824 (by decide +kernel) rfl
theorem wd_825 : Cond.instanceMethod yX6_site ∈ TW := TW_t 825 (by decide +kernel) rfl
theorem wd_826 : Cond.selects RX6 yX6_site yX6_site ∈ TW := TW_t 826 (by decide +kernel) rfl
set_option maxRecDepth 20000 in
theorem wd_827 : Cond.code yX6_site cX6_site 4 (some .int) ∈ TW := TW_t 827 rfl rfl
theorem wd_828 : Cond.methodLink RL 63 yX6_talker ∈ TW := TW_t 828 (by decide +kernel) rfl
theorem wd_829 : Cond.instanceMethod yX6_talker ∈ TW := TW_t 829 (by decide +kernel) rfl
theorem wd_830 : Cond.selects RX6 yX6_talker yX6_talker ∈ TW := TW_t 830 (by decide +kernel) rfl
set_option maxRecDepth 20000 in
theorem wd_831 : Cond.code yX6_talker cX6_talker 2 (some .int) ∈ TW := TW_t 831 rfl rfl
theorem wd_832 : Cond.methodLink RL 67 yX6_queue ∈ TW := TW_t 832 (by decide +kernel) rfl
theorem wd_833 : Cond.instanceMethod yX6_queue ∈ TW := TW_t 833 (by decide +kernel) rfl
theorem wd_834 : Cond.selects RX6 yX6_queue yX6_queue ∈ TW := TW_t 834 (by decide +kernel) rfl
set_option maxRecDepth 20000 in
theorem wd_835 : Cond.code yX6_queue cX6_queue 2 (some .int) ∈ TW := TW_t 835 rfl rfl
theorem wd_836 : Cond.methodLink RL 71 yX6_soon ∈ TW := TW_t 836 (by decide +kernel) rfl
theorem wd_837 : Cond.instanceMethod yX6_soon ∈ TW := TW_t 837 (by decide +kernel) rfl
theorem wd_838 : Cond.selects RX6 yX6_soon yX6_soon ∈ TW := TW_t 838 (by decide +kernel) rfl
set_option maxRecDepth 20000 in
theorem wd_839 : Cond.code yX6_soon cX6_soon 3 (some .int) ∈ TW := TW_t 839 rfl rfl
theorem wd_840 : Cond.methodLink RL 75 yX6_within ∈ TW := TW_t 840 (by decide +kernel) rfl
theorem wd_841 : Cond.instanceMethod yX6_within ∈ TW := TW_t 841 (by decide +kernel) rfl
theorem wd_842 : Cond.selects RX6 yX6_within yX6_within ∈ TW := TW_t 842 (by decide +kernel) rfl
set_option maxRecDepth 20000 in
theorem wd_843 : Cond.code yX6_within cX6_within 5 (some .int) ∈ TW := TW_t 843 rfl rfl
theorem wd_844 : Cond.methodLink RL 79 yX6_wave ∈ TW := TW_t 844 (by decide +kernel) rfl
theorem wd_845 : Cond.instanceMethod yX6_wave ∈ TW := TW_t 845 (by decide +kernel) rfl
theorem wd_846 : Cond.selects RX6 yX6_wave yX6_wave ∈ TW := TW_t 846 (by decide +kernel) rfl
set_option maxRecDepth 20000 in
theorem wd_847 : Cond.code yX6_wave cX6_wave 3 (some .int) ∈ TW := TW_t 847 rfl rfl
theorem wd_848 : Cond.methodLink RX6 201 yX6_enough ∈ TW := TW_t 848 (by decide +kernel) rfl
theorem wd_850 : Cond.instanceMethod yX6_enough ∈ TW := TW_t 850 (by decide +kernel) rfl
set_option maxRecDepth 20000 in
theorem wd_851 : Cond.code yX6_enough cX6_enough 9 (some .int) ∈ TW := TW_t 851 rfl rfl
theorem wd_852 : Cond.methodLink RX6 198 yX6_presses2 ∈ TW := TW_t 852 (by decide +kernel) rfl
theorem wd_854 : Cond.instanceMethod yX6_presses2 ∈ TW := TW_t 854 (by decide +kernel) rfl
set_option maxRecDepth 20000 in
theorem wd_855 : Cond.code yX6_presses2 cX6_presses2 3 none ∈ TW := TW_t 855 rfl rfl
theorem wd_856 : Cond.methodLink RX6 204 yX6_lasts ∈ TW := TW_t 856 (by decide +kernel) rfl
theorem wd_858 : Cond.instanceMethod yX6_lasts ∈ TW := TW_t 858 (by decide +kernel) rfl
set_option maxRecDepth 20000 in
theorem wd_859 : Cond.code yX6_lasts cX6_lasts 4 (some .int) ∈ TW := TW_t 859 rfl rfl
theorem wd_860 : Cond.methodLink RL 84 yX6_odds ∈ TW := TW_t 860 (by decide +kernel) rfl
theorem wd_861 : Cond.instanceMethod yX6_odds ∈ TW := TW_t 861 (by decide +kernel) rfl
theorem wd_862 : Cond.selects RX6 yX6_odds yX6_odds ∈ TW := TW_t 862 (by decide +kernel) rfl
set_option maxRecDepth 20000 in
theorem wd_863 : Cond.code yX6_odds cX6_odds 12 (some .int) ∈ TW := TW_t 863 rfl rfl
theorem wd_864 : Cond.methodLink RX6 208 yX6_gcd ∈ TW := TW_t 864 (by decide +kernel) rfl
theorem wd_865 : Cond.static yX6_gcd ∈ TW := TW_t 865 (by decide +kernel) rfl
set_option maxRecDepth 20000 in
theorem wd_866 : Cond.code yX6_gcd cX6_gcd 5 (some .int) ∈ TW := TW_t 866 rfl rfl
theorem wd_867 : Cond.methodLink RL 88 yX6_sees ∈ TW := TW_t 867 (by decide +kernel) rfl
theorem wd_868 : Cond.instanceMethod yX6_sees ∈ TW := TW_t 868 (by decide +kernel) rfl
theorem wd_869 : Cond.selects RX6 yX6_sees yX6_sees ∈ TW := TW_t 869 (by decide +kernel) rfl
set_option maxRecDepth 20000 in
theorem wd_870 : Cond.code yX6_sees cX6_sees 3 (some .int) ∈ TW := TW_t 870 rfl rfl
theorem wd_871 : Cond.methodLink RL 92 yX6_forget ∈ TW := TW_t 871 (by decide +kernel) rfl
theorem wd_872 : Cond.instanceMethod yX6_forget ∈ TW := TW_t 872 (by decide +kernel) rfl
theorem wd_873 : Cond.selects RX6 yX6_forget yX6_forget ∈ TW := TW_t 873 (by decide +kernel) rfl
set_option maxRecDepth 20000 in
theorem wd_874 : Cond.code yX6_forget cX6_forget 2 (some .int) ∈ TW := TW_t 874 rfl rfl
theorem wd_875 : Cond.methodLink RL 96 yX6_ranks ∈ TW := TW_t 875 (by decide +kernel) rfl
theorem wd_876 : Cond.instanceMethod yX6_ranks ∈ TW := TW_t 876 (by decide +kernel) rfl
theorem wd_877 : Cond.selects RX6 yX6_ranks yX6_ranks ∈ TW := TW_t 877 (by decide +kernel) rfl
set_option maxRecDepth 20000 in
theorem wd_878 : Cond.code yX6_ranks cX6_ranks 4 (some .int) ∈ TW := TW_t 878 rfl rfl
theorem wd_879 : Cond.methodLink RX6 211 yX6_onBy ∈ TW := TW_t 879 (by decide +kernel) rfl
theorem wd_881 : Cond.instanceMethod yX6_onBy ∈ TW := TW_t 881 (by decide +kernel) rfl
set_option maxRecDepth 20000 in
theorem wd_882 : Cond.code yX6_onBy cX6_onBy 6 (some .int) ∈ TW := TW_t 882 rfl rfl
theorem wd_883 : Cond.methodLink RX6 214 yX6_isAsSeen ∈ TW := TW_t 883 (by decide +kernel) rfl
theorem wd_885 : Cond.instanceMethod yX6_isAsSeen ∈ TW := TW_t 885 (by decide +kernel) rfl
set_option maxRecDepth 20000 in
theorem wd_886 : Cond.code yX6_isAsSeen cX6_isAsSeen 4 (some .boolean) ∈ TW := TW_t 886 rfl rfl
theorem wd_887 : Cond.methodLink RL 100 yX6_look ∈ TW := TW_t 887 (by decide +kernel) rfl
theorem wd_888 : Cond.instanceMethod yX6_look ∈ TW := TW_t 888 (by decide +kernel) rfl
theorem wd_889 : Cond.selects RX6 yX6_look yX6_look ∈ TW := TW_t 889 (by decide +kernel) rfl
set_option maxRecDepth 20000 in
theorem wd_890 : Cond.code yX6_look cX6_look 7 (some .int) ∈ TW := TW_t 890 rfl rfl
theorem wd_891 : Cond.methodLink RL 104 yX6_keep ∈ TW := TW_t 891 (by decide +kernel) rfl
theorem wd_892 : Cond.instanceMethod yX6_keep ∈ TW := TW_t 892 (by decide +kernel) rfl
theorem wd_893 : Cond.selects RX6 yX6_keep yX6_keep ∈ TW := TW_t 893 (by decide +kernel) rfl
set_option maxRecDepth 20000 in
theorem wd_894 : Cond.code yX6_keep cX6_keep 3 (some .int) ∈ TW := TW_t 894 rfl rfl
theorem wd_895 : Cond.methodLink RL 108 yX6_back ∈ TW := TW_t 895 (by decide +kernel) rfl
theorem wd_896 : Cond.instanceMethod yX6_back ∈ TW := TW_t 896 (by decide +kernel) rfl
theorem wd_897 : Cond.selects RX6 yX6_back yX6_back ∈ TW := TW_t 897 (by decide +kernel) rfl
set_option maxRecDepth 20000 in
theorem wd_898 : Cond.code yX6_back cX6_back 3 (some .int) ∈ TW := TW_t 898 rfl rfl
theorem wd_899 : Cond.methodLink RL 112 yX6_count ∈ TW := TW_t 899 (by decide +kernel) rfl
theorem wd_900 : Cond.instanceMethod yX6_count ∈ TW := TW_t 900 (by decide +kernel) rfl
theorem wd_901 : Cond.selects RX6 yX6_count yX6_count ∈ TW := TW_t 901 (by decide +kernel) rfl
set_option maxRecDepth 20000 in
theorem wd_902 : Cond.code yX6_count cX6_count 2 (some .int) ∈ TW := TW_t 902 rfl rfl
theorem wp_0 : Cond.selects RX3 yX3_readToken yX3_readToken ∈ TW := TW_p 0 (by decide +kernel) rfl
theorem wp_1 : Cond.selects RX3 yX3_letterAt yX3_letterAt ∈ TW := TW_p 1 (by decide +kernel) rfl
theorem wp_2 : Cond.selects RX3 yX3_readNumber yX3_readNumber ∈ TW := TW_p 2 (by decide +kernel) rfl
theorem wp_3 : Cond.selects RX3 yX3_readItem yX3_readItem ∈ TW := TW_p 3 (by decide +kernel) rfl
theorem wp_4 : Cond.selects RX3 yX3_readChannels yX3_readChannels ∈ TW := TW_p 4 (by decide +kernel) rfl
theorem wp_5 : Cond.selects RX3 yX3_isNumberFrom yX3_isNumberFrom ∈ TW := TW_p 5 (by decide +kernel) rfl
theorem wp_6 : Cond.selects RX3 yX3_isEnded yX3_isEnded ∈ TW := TW_p 6 (by decide +kernel) rfl
theorem wp_7 : Cond.selects RX3 yX3_readAir yX3_readAir ∈ TW := TW_p 7 (by decide +kernel) rfl
theorem wp_8 : Cond.selects RX3 yX3_readPatience yX3_readPatience ∈ TW := TW_p 8 (by decide +kernel) rfl
theorem wp_9 : Cond.selects RX3 yX3_readRadio yX3_readRadio ∈ TW := TW_p 9 (by decide +kernel) rfl
theorem wp_10 : Cond.selects RX0 yX0_tryAgain yX0_tryAgain ∈ TW := TW_p 10 (by decide +kernel) rfl
theorem wp_11 : Cond.selects RX0 yX0_cutLongTalks yX0_cutLongTalks ∈ TW := TW_p 11 (by decide +kernel) rfl
theorem wp_12 : Cond.selects RX5 yX5_waveLasts yX5_waveLasts ∈ TW := TW_p 12 (by decide +kernel) rfl
theorem wp_13 : Cond.selects RX5 yX5_isEnough yX5_isEnough ∈ TW := TW_p 13 (by decide +kernel) rfl
theorem wp_14 : Cond.selects RX5 yX5_talksAmong yX5_talksAmong ∈ TW := TW_p 14 (by decide +kernel) rfl
theorem wp_15 : Cond.selects RX5 yX5_ranksThatFit yX5_ranksThatFit ∈ TW := TW_p 15 (by decide +kernel) rfl
theorem wp_16 : Cond.selects RX5 yX5_timesOnAir yX5_timesOnAir ∈ TW := TW_p 16 (by decide +kernel) rfl
theorem wp_17 : Cond.selects RX5 yX5_agreesWithSeen yX5_agreesWithSeen ∈ TW := TW_p 17 (by decide +kernel) rfl
theorem wp_18 : Cond.selects RX5 yX5_ranksOnAir yX5_ranksOnAir ∈ TW := TW_p 18 (by decide +kernel) rfl
theorem wp_19 : Cond.selects RX6 yX6_begins yX6_begins ∈ TW := TW_p 19 (by decide +kernel) rfl
theorem wp_20 : Cond.selects RX6 yX6_settles yX6_settles ∈ TW := TW_p 20 (by decide +kernel) rfl
theorem wp_21 : Cond.selects RX6 yX6_advances yX6_advances ∈ TW := TW_p 21 (by decide +kernel) rfl
theorem wp_22 : Cond.selects RX6 yX6_letterAt yX6_letterAt ∈ TW := TW_p 22 (by decide +kernel) rfl
theorem wp_23 : Cond.selects RX6 yX6_isWell yX6_isWell ∈ TW := TW_p 23 (by decide +kernel) rfl
theorem wp_24 : Cond.selects RX6 yX6_mayBegin yX6_mayBegin ∈ TW := TW_p 24 (by decide +kernel) rfl
theorem wp_25 : Cond.selects RX6 yX6_takes yX6_takes ∈ TW := TW_p 25 (by decide +kernel) rfl
theorem wp_26 : Cond.selects RX6 yX6_readsItem yX6_readsItem ∈ TW := TW_p 26 (by decide +kernel) rfl
theorem wp_27 : Cond.selects RX6 yX6_number yX6_number ∈ TW := TW_p 27 (by decide +kernel) rfl
theorem wp_28 : Cond.selects RX6 yX6_notes yX6_notes ∈ TW := TW_p 28 (by decide +kernel) rfl
theorem wp_29 : Cond.selects RX6 yX6_goes yX6_goes ∈ TW := TW_p 29 (by decide +kernel) rfl
theorem wp_30 : Cond.selects RX6 yX6_controls2 yX6_controls2 ∈ TW := TW_p 30 (by decide +kernel) rfl
theorem wp_31 : Cond.selects RX6 yX6_heardAt yX6_heardAt ∈ TW := TW_p 31 (by decide +kernel) rfl
theorem wp_32 : Cond.selects RX6 yX6_isSentAt yX6_isSentAt ∈ TW := TW_p 32 (by decide +kernel) rfl
theorem wp_33 : Cond.selects RX6 yX6_helpsItself yX6_helpsItself ∈ TW := TW_p 33 (by decide +kernel) rfl
theorem wp_34 : Cond.selects RX6 yX6_lines yX6_lines ∈ TW := TW_p 34 (by decide +kernel) rfl
theorem wp_35 : Cond.selects RX6 yX6_isAhead yX6_isAhead ∈ TW := TW_p 35 (by decide +kernel) rfl
theorem wp_36 : Cond.selects RX6 yX6_serves yX6_serves ∈ TW := TW_p 36 (by decide +kernel) rfl
theorem wp_37 : Cond.selects RX6 yX6_talkerOf yX6_talkerOf ∈ TW := TW_p 37 (by decide +kernel) rfl
theorem wp_38 : Cond.selects RX6 yX6_neededBy yX6_neededBy ∈ TW := TW_p 38 (by decide +kernel) rfl
theorem wp_39 : Cond.selects RX6 yX6_isFree yX6_isFree ∈ TW := TW_p 39 (by decide +kernel) rfl
theorem wp_40 : Cond.selects RX6 yX6_freeAt yX6_freeAt ∈ TW := TW_p 40 (by decide +kernel) rfl
theorem wp_41 : Cond.selects RX6 yX6_takesOver yX6_takesOver ∈ TW := TW_p 41 (by decide +kernel) rfl
theorem wp_42 : Cond.selects RX6 yX6_leastAt yX6_leastAt ∈ TW := TW_p 42 (by decide +kernel) rfl
theorem wp_43 : Cond.selects RX6 yX6_isOn yX6_isOn ∈ TW := TW_p 43 (by decide +kernel) rfl
theorem wp_44 : Cond.selects RX6 yX6_isRadio yX6_isRadio ∈ TW := TW_p 44 (by decide +kernel) rfl
theorem wp_45 : Cond.selects RX6 yX6_enough yX6_enough ∈ TW := TW_p 45 (by decide +kernel) rfl
theorem wp_46 : Cond.selects RX6 yX6_presses2 yX6_presses2 ∈ TW := TW_p 46 (by decide +kernel) rfl
theorem wp_47 : Cond.selects RX6 yX6_lasts yX6_lasts ∈ TW := TW_p 47 (by decide +kernel) rfl
theorem wp_48 : Cond.selects RX6 yX6_onBy yX6_onBy ∈ TW := TW_p 48 (by decide +kernel) rfl
theorem wp_49 : Cond.selects RX6 yX6_isAsSeen yX6_isAsSeen ∈ TW := TW_p 49 (by decide +kernel) rfl
theorem inlX0 : ∀ w ∈ u_ws RX0 TX0 2, w ∈ TW := List.forall_mem_cons.mpr ⟨wd_119, List.forall_mem_cons.mpr ⟨wd_121, fun _ h => absurd h List.not_mem_nil⟩⟩
theorem inlX1 : ∀ w ∈ u_ws RX1 TX1 3, w ∈ TW := List.forall_mem_cons.mpr ⟨wd_194, List.forall_mem_cons.mpr ⟨wd_196, List.forall_mem_cons.mpr ⟨wd_198, fun _ h => absurd h List.not_mem_nil⟩⟩⟩
theorem inlX2 : ∀ w ∈ u_ws RX2 TX2 7, w ∈ TW := List.forall_mem_cons.mpr ⟨wd_95, List.forall_mem_cons.mpr ⟨wd_97, List.forall_mem_cons.mpr ⟨wd_99, List.forall_mem_cons.mpr ⟨wd_101, List.forall_mem_cons.mpr ⟨wd_103, List.forall_mem_cons.mpr ⟨wd_105, List.forall_mem_cons.mpr ⟨wd_107, fun _ h => absurd h List.not_mem_nil⟩⟩⟩⟩⟩⟩⟩
theorem inlX3 : ∀ w ∈ u_ws RX3 TX3 9, w ∈ TW := List.forall_mem_cons.mpr ⟨wd_35, List.forall_mem_cons.mpr ⟨wd_37, List.forall_mem_cons.mpr ⟨wd_39, List.forall_mem_cons.mpr ⟨wd_41, List.forall_mem_cons.mpr ⟨wd_43, List.forall_mem_cons.mpr ⟨wd_45, List.forall_mem_cons.mpr ⟨wd_47, List.forall_mem_cons.mpr ⟨wd_49, List.forall_mem_cons.mpr ⟨wd_51, fun _ h => absurd h List.not_mem_nil⟩⟩⟩⟩⟩⟩⟩⟩⟩
theorem inlX4 : ∀ w ∈ u_ws RX4 TX4 10, w ∈ TW := List.forall_mem_cons.mpr ⟨wd_160, List.forall_mem_cons.mpr ⟨wd_162, List.forall_mem_cons.mpr ⟨wd_164, List.forall_mem_cons.mpr ⟨wd_166, List.forall_mem_cons.mpr ⟨wd_168, List.forall_mem_cons.mpr ⟨wd_170, List.forall_mem_cons.mpr ⟨wd_172, List.forall_mem_cons.mpr ⟨wd_174, List.forall_mem_cons.mpr ⟨wd_176, List.forall_mem_cons.mpr ⟨wd_178, fun _ h => absurd h List.not_mem_nil⟩⟩⟩⟩⟩⟩⟩⟩⟩⟩
theorem inlX5 : ∀ w ∈ u_ws RX5 TX5 13, w ∈ TW := List.forall_mem_cons.mpr ⟨wd_214, List.forall_mem_cons.mpr ⟨wd_216, List.forall_mem_cons.mpr ⟨wd_218, List.forall_mem_cons.mpr ⟨wd_220, List.forall_mem_cons.mpr ⟨wd_222, List.forall_mem_cons.mpr ⟨wd_224, List.forall_mem_cons.mpr ⟨wd_226, List.forall_mem_cons.mpr ⟨wd_228, List.forall_mem_cons.mpr ⟨wd_230, List.forall_mem_cons.mpr ⟨wd_232, List.forall_mem_cons.mpr ⟨wd_234, List.forall_mem_cons.mpr ⟨wd_236, List.forall_mem_cons.mpr ⟨wd_238, fun _ h => absurd h List.not_mem_nil⟩⟩⟩⟩⟩⟩⟩⟩⟩⟩⟩⟩⟩
theorem inlX6 : ∀ w ∈ u_ws RX6 TX6 25, w ∈ TW := List.forall_mem_cons.mpr ⟨wd_621, List.forall_mem_cons.mpr ⟨wd_623, List.forall_mem_cons.mpr ⟨wd_625, List.forall_mem_cons.mpr ⟨wd_627, List.forall_mem_cons.mpr ⟨wd_629, List.forall_mem_cons.mpr ⟨wd_631, List.forall_mem_cons.mpr ⟨wd_633, List.forall_mem_cons.mpr ⟨wd_635, List.forall_mem_cons.mpr ⟨wd_637, List.forall_mem_cons.mpr ⟨wd_639, List.forall_mem_cons.mpr ⟨wd_641, List.forall_mem_cons.mpr ⟨wd_643, List.forall_mem_cons.mpr ⟨wd_645, List.forall_mem_cons.mpr ⟨wd_647, List.forall_mem_cons.mpr ⟨wd_649, List.forall_mem_cons.mpr ⟨wd_651, List.forall_mem_cons.mpr ⟨wd_653, List.forall_mem_cons.mpr ⟨wd_655, List.forall_mem_cons.mpr ⟨wd_657, List.forall_mem_cons.mpr ⟨wd_659, List.forall_mem_cons.mpr ⟨wd_661, List.forall_mem_cons.mpr ⟨wd_663, List.forall_mem_cons.mpr ⟨wd_665, List.forall_mem_cons.mpr ⟨wd_667, List.forall_mem_cons.mpr ⟨wd_669, fun _ h => absurd h List.not_mem_nil⟩⟩⟩⟩⟩⟩⟩⟩⟩⟩⟩⟩⟩⟩⟩⟩⟩⟩⟩⟩⟩⟩⟩⟩⟩
