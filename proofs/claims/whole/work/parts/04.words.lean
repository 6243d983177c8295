set_option maxRecDepth 20000 in
theorem t1_0 : (.initialized RL : Cond) ∈ TT := tb1 0 (by decide +kernel) rfl
set_option maxRecDepth 20000 in
theorem t1_1 : (.initialized RX9 : Cond) ∈ TT := tb1 1 (by decide +kernel) rfl
set_option maxRecDepth 20000 in
theorem t1_2 : (.initialized RX3 : Cond) ∈ TT := tb1 2 (by decide +kernel) rfl
set_option maxRecDepth 20000 in
theorem t1_3 : (.initialized RX1 : Cond) ∈ TT := tb1 3 (by decide +kernel) rfl
set_option maxRecDepth 20000 in
theorem t1_4 : (.initialized RX2 : Cond) ∈ TT := tb1 4 (by decide +kernel) rfl
set_option maxRecDepth 20000 in
theorem t1_5 : (.initialized RX6 : Cond) ∈ TT := tb1 5 (by decide +kernel) rfl
set_option maxRecDepth 20000 in
theorem t1_6 : (.initialized RJ7 : Cond) ∈ TT := tb1 6 (by decide +kernel) rfl
set_option maxRecDepth 20000 in
theorem t1_7 : (.initialized RX7 : Cond) ∈ TT := tb1 7 (by decide +kernel) rfl
set_option maxRecDepth 20000 in
theorem t1_8 : (.initialized RX8 : Cond) ∈ TT := tb1 8 (by decide +kernel) rfl
set_option maxRecDepth 20000 in
theorem t1_9 : (.initialized RX0 : Cond) ∈ TT := tb1 9 (by decide +kernel) rfl
set_option maxRecDepth 20000 in
theorem t1_10 : (.initialized RX4 : Cond) ∈ TT := tb1 10 (by decide +kernel) rfl
set_option maxRecDepth 20000 in
theorem t1_11 : (.initialized RX5 : Cond) ∈ TT := tb1 11 (by decide +kernel) rfl
set_option maxRecDepth 20000 in
theorem t1_12 : (.initialized RX10 : Cond) ∈ TT := tb1 12 (by decide +kernel) rfl
set_option maxRecDepth 20000 in
theorem t1_13 : (.initialized RJ9 : Cond) ∈ TT := tb1 13 (by decide +kernel) rfl
set_option maxRecDepth 20000 in
theorem t1_14 : (.initialized RJ10 : Cond) ∈ TT := tb1 14 (by decide +kernel) rfl
set_option maxRecDepth 20000 in
theorem t1_15 : (.classLink RL 7 RX9 : Cond) ∈ TT := tb1 15 (by decide +kernel) rfl
set_option maxRecDepth 20000 in
theorem t1_16 : (.instantiable RX9 14 : Cond) ∈ TT := tb1 16 (by decide +kernel) rfl
set_option maxRecDepth 20000 in
theorem t1_17 : (.methodLink RL 9 yX9_init : Cond) ∈ TT := tb1 17 (by decide +kernel) rfl
set_option maxRecDepth 20000 in
theorem t1_18 : (.instanceMethod yX9_init : Cond) ∈ TT := tb1 18 (by decide +kernel) rfl
set_option maxRecDepth 20000 in
theorem t1_19 : (.code yX9_init cX9_init 1 none : Cond) ∈ TT := tb1 19 rfl rfl
set_option maxRecDepth 20000 in
theorem t1_20 : (.methodLink RX9 3 objectInit : Cond) ∈ TT := tb1 20 (by decide +kernel) rfl
set_option maxRecDepth 20000 in
theorem t1_21 : (.instanceMethod objectInit : Cond) ∈ TT := tb1 21 (by decide +kernel) rfl
set_option maxRecDepth 20000 in
theorem t1_22 : (.code objectInit ⟨#[0xb1]⟩ 1 none : Cond) ∈ TT := tb1 22 rfl rfl
set_option maxRecDepth 20000 in
theorem t1_23 : (.classLink RX9 9 RX3 : Cond) ∈ TT := tb1 23 (by decide +kernel) rfl
set_option maxRecDepth 20000 in
theorem t1_24 : (.instantiable RX3 2 : Cond) ∈ TT := tb1 24 (by decide +kernel) rfl
set_option maxRecDepth 20000 in
theorem t1_26 : (.instanceMethod yX3_init : Cond) ∈ TT := tb1 26 (by decide +kernel) rfl
set_option maxRecDepth 20000 in
theorem t1_27 : (.code yX3_init cX3_init 1 none : Cond) ∈ TT := tb1 27 rfl rfl
set_option maxRecDepth 20000 in
theorem t1_28 : (.methodLink RX3 3 objectInit : Cond) ∈ TT := tb1 28 (by decide +kernel) rfl
set_option maxRecDepth 20000 in
theorem t1_29 : (.fieldLink RX3 9 "FanBlades$Letters" "row" "[I" : Cond) ∈ TT := tb1 29 (by decide +kernel) rfl
set_option maxRecDepth 20000 in
theorem t1_30 : (.fieldLink RX3 15 "FanBlades$Letters" "length" "I" : Cond) ∈ TT := tb1 30 (by decide +kernel) rfl
set_option maxRecDepth 20000 in
theorem t1_31 : (.laysFinal RX3 "FanBlades$Letters" "row" "[I" : Cond) ∈ TT := tb1 31 (by decide +kernel) rfl
set_option maxRecDepth 20000 in
theorem t1_33 : (.lays RX3 "FanBlades$Letters" "length" "I" : Cond) ∈ TT := tb1 33 (by decide +kernel) rfl
set_option maxRecDepth 20000 in
theorem t1_36 : (.arrayClass .int : Cond) ∈ TT := tb1 36 (by decide +kernel) rfl
set_option maxRecDepth 20000 in
theorem t1_37 : (.classLink RX9 16 RX1 : Cond) ∈ TT := tb1 37 (by decide +kernel) rfl
set_option maxRecDepth 20000 in
theorem t1_38 : (.instantiable RX1 3 : Cond) ∈ TT := tb1 38 (by decide +kernel) rfl
set_option maxRecDepth 20000 in
theorem t1_40 : (.instanceMethod yX1_init : Cond) ∈ TT := tb1 40 (by decide +kernel) rfl
set_option maxRecDepth 20000 in
theorem t1_41 : (.code yX1_init cX1_init 1 none : Cond) ∈ TT := tb1 41 rfl rfl
set_option maxRecDepth 20000 in
theorem t1_42 : (.methodLink RX1 3 objectInit : Cond) ∈ TT := tb1 42 (by decide +kernel) rfl
set_option maxRecDepth 20000 in
theorem t1_43 : (.fieldLink RX1 9 "FanBlades$Blades" "kinds" "[I" : Cond) ∈ TT := tb1 43 (by decide +kernel) rfl
set_option maxRecDepth 20000 in
theorem t1_44 : (.fieldLink RX1 15 "FanBlades$Blades" "letters" "[I" : Cond) ∈ TT := tb1 44 (by decide +kernel) rfl
set_option maxRecDepth 20000 in
theorem t1_45 : (.fieldLink RX1 30 "FanBlades$Blades" "size" "I" : Cond) ∈ TT := tb1 45 (by decide +kernel) rfl
set_option maxRecDepth 20000 in
theorem t1_46 : (.laysFinal RX1 "FanBlades$Blades" "kinds" "[I" : Cond) ∈ TT := tb1 46 (by decide +kernel) rfl
set_option maxRecDepth 20000 in
theorem t1_48 : (.laysFinal RX1 "FanBlades$Blades" "letters" "[I" : Cond) ∈ TT := tb1 48 (by decide +kernel) rfl
set_option maxRecDepth 20000 in
theorem t1_50 : (.lays RX1 "FanBlades$Blades" "size" "I" : Cond) ∈ TT := tb1 50 (by decide +kernel) rfl
set_option maxRecDepth 20000 in
theorem t1_53 : (.classLink RX9 23 RX2 : Cond) ∈ TT := tb1 53 (by decide +kernel) rfl
set_option maxRecDepth 20000 in
theorem t1_54 : (.instantiable RX2 2 : Cond) ∈ TT := tb1 54 (by decide +kernel) rfl
set_option maxRecDepth 20000 in
theorem t1_55 : (.methodLink RX9 25 yX2_init : Cond) ∈ TT := tb1 55 (by decide +kernel) rfl
set_option maxRecDepth 20000 in
theorem t1_56 : (.instanceMethod yX2_init : Cond) ∈ TT := tb1 56 (by decide +kernel) rfl
set_option maxRecDepth 20000 in
theorem t1_57 : (.code yX2_init cX2_init 2 none : Cond) ∈ TT := tb1 57 rfl rfl
set_option maxRecDepth 20000 in
theorem t1_58 : (.methodLink RX2 3 objectInit : Cond) ∈ TT := tb1 58 (by decide +kernel) rfl
set_option maxRecDepth 20000 in
theorem t1_59 : (.fieldLink RX2 15 "FanBlades$GapRow" "blades" "LFanBlades$Blades;" : Cond) ∈ TT := tb1 59 (by decide +kernel) rfl
set_option maxRecDepth 20000 in
theorem t1_60 : (.fieldLink RX2 9 "FanBlades$GapRow" "row" "[I" : Cond) ∈ TT := tb1 60 (by decide +kernel) rfl
set_option maxRecDepth 20000 in
theorem t1_61 : (.laysFinal RX2 "FanBlades$GapRow" "blades" "LFanBlades$Blades;" : Cond) ∈ TT := tb1 61 (by decide +kernel) rfl
set_option maxRecDepth 20000 in
theorem t1_63 : (.laysFinal RX2 "FanBlades$GapRow" "row" "[I" : Cond) ∈ TT := tb1 63 (by decide +kernel) rfl
set_option maxRecDepth 20000 in
theorem t1_66 : (.classLink RX9 35 RX6 : Cond) ∈ TT := tb1 66 (by decide +kernel) rfl
set_option maxRecDepth 20000 in
theorem t1_67 : (.instantiable RX6 5 : Cond) ∈ TT := tb1 67 (by decide +kernel) rfl
set_option maxRecDepth 20000 in
theorem t1_68 : (.methodLink RX9 37 yX6_init : Cond) ∈ TT := tb1 68 (by decide +kernel) rfl
set_option maxRecDepth 20000 in
theorem t1_69 : (.instanceMethod yX6_init : Cond) ∈ TT := tb1 69 (by decide +kernel) rfl
set_option maxRecDepth 20000 in
theorem t1_70 : (.code yX6_init cX6_init 2 none : Cond) ∈ TT := tb1 70 rfl rfl
set_option maxRecDepth 20000 in
theorem t1_71 : (.methodLink RX6 3 objectInit : Cond) ∈ TT := tb1 71 (by decide +kernel) rfl
set_option maxRecDepth 20000 in
theorem t1_72 : (.classLink RX6 9 "[[I" : Cond) ∈ TT := tb1 72 (by decide +kernel) rfl
set_option maxRecDepth 20000 in
theorem t1_74 : (.methodLink RX6 24 yJ7_fill_53178 : Cond) ∈ TT := tb1 74 (by decide +kernel) rfl
set_option maxRecDepth 20000 in
theorem t1_75 : (.static yJ7_fill_53178 : Cond) ∈ TT := tb1 75 (by decide +kernel) rfl
set_option maxRecDepth 20000 in
theorem t1_76 : (.code yJ7_fill_53178 cJ7_fill_53178 4 none : Cond) ∈ TT := tb1 76 rfl rfl
set_option maxRecDepth 20000 in
theorem t1_77 : (.fieldLink RX6 20 "FanBlades$View" "blades" "LFanBlades$Blades;" : Cond) ∈ TT := tb1 77 (by decide +kernel) rfl
set_option maxRecDepth 20000 in
theorem t1_78 : (.fieldLink RX6 11 "FanBlades$View" "marks" "[[I" : Cond) ∈ TT := tb1 78 (by decide +kernel) rfl
set_option maxRecDepth 20000 in
theorem t1_79 : (.fieldLink RX6 16 "FanBlades$View" "begins" "[I" : Cond) ∈ TT := tb1 79 (by decide +kernel) rfl
set_option maxRecDepth 20000 in
theorem t1_80 : (.fieldLink RX6 30 "FanBlades$View" "side" "I" : Cond) ∈ TT := tb1 80 (by decide +kernel) rfl
set_option maxRecDepth 20000 in
theorem t1_81 : (.fieldLink RX6 44 "FanBlades$View" "laid" "I" : Cond) ∈ TT := tb1 81 (by decide +kernel) rfl
set_option maxRecDepth 20000 in
theorem t1_82 : (.laysFinal RX6 "FanBlades$View" "blades" "LFanBlades$Blades;" : Cond) ∈ TT := tb1 82 (by decide +kernel) rfl
set_option maxRecDepth 20000 in
theorem t1_84 : (.laysFinal RX6 "FanBlades$View" "marks" "[[I" : Cond) ∈ TT := tb1 84 (by decide +kernel) rfl
set_option maxRecDepth 20000 in
theorem t1_86 : (.laysFinal RX6 "FanBlades$View" "begins" "[I" : Cond) ∈ TT := tb1 86 (by decide +kernel) rfl
set_option maxRecDepth 20000 in
theorem t1_88 : (.lays RX6 "FanBlades$View" "side" "I" : Cond) ∈ TT := tb1 88 (by decide +kernel) rfl
set_option maxRecDepth 20000 in
theorem t1_90 : (.lays RX6 "FanBlades$View" "laid" "I" : Cond) ∈ TT := tb1 90 (by decide +kernel) rfl
set_option maxRecDepth 20000 in
theorem t1_93 : (.classLink RX9 42 RX7 : Cond) ∈ TT := tb1 93 (by decide +kernel) rfl
set_option maxRecDepth 20000 in
theorem t1_94 : (.instantiable RX7 3 : Cond) ∈ TT := tb1 94 (by decide +kernel) rfl
set_option maxRecDepth 20000 in
theorem t1_95 : (.methodLink RX9 44 yX7_init : Cond) ∈ TT := tb1 95 (by decide +kernel) rfl
set_option maxRecDepth 20000 in
theorem t1_96 : (.instanceMethod yX7_init : Cond) ∈ TT := tb1 96 (by decide +kernel) rfl
set_option maxRecDepth 20000 in
theorem t1_97 : (.code yX7_init cX7_init 4 none : Cond) ∈ TT := tb1 97 rfl rfl
set_option maxRecDepth 20000 in
theorem t1_98 : (.methodLink RX7 3 objectInit : Cond) ∈ TT := tb1 98 (by decide +kernel) rfl
set_option maxRecDepth 20000 in
theorem t1_99 : (.fieldLink RX7 9 "FanBlades$Ways" "blades" "LFanBlades$Blades;" : Cond) ∈ TT := tb1 99 (by decide +kernel) rfl
set_option maxRecDepth 20000 in
theorem t1_100 : (.fieldLink RX7 15 "FanBlades$Ways" "way" "LFanBlades$GapRow;" : Cond) ∈ TT := tb1 100 (by decide +kernel) rfl
set_option maxRecDepth 20000 in
theorem t1_101 : (.fieldLink RX7 19 "FanBlades$Ways" "view" "LFanBlades$View;" : Cond) ∈ TT := tb1 101 (by decide +kernel) rfl
set_option maxRecDepth 20000 in
theorem t1_102 : (.laysFinal RX7 "FanBlades$Ways" "blades" "LFanBlades$Blades;" : Cond) ∈ TT := tb1 102 (by decide +kernel) rfl
set_option maxRecDepth 20000 in
theorem t1_104 : (.laysFinal RX7 "FanBlades$Ways" "way" "LFanBlades$GapRow;" : Cond) ∈ TT := tb1 104 (by decide +kernel) rfl
set_option maxRecDepth 20000 in
theorem t1_106 : (.laysFinal RX7 "FanBlades$Ways" "view" "LFanBlades$View;" : Cond) ∈ TT := tb1 106 (by decide +kernel) rfl
set_option maxRecDepth 20000 in
theorem t1_109 : (.classLink RX9 51 RX8 : Cond) ∈ TT := tb1 109 (by decide +kernel) rfl
set_option maxRecDepth 20000 in
theorem t1_110 : (.instantiable RX8 2 : Cond) ∈ TT := tb1 110 (by decide +kernel) rfl
set_option maxRecDepth 20000 in
theorem t1_112 : (.instanceMethod yX8_init : Cond) ∈ TT := tb1 112 (by decide +kernel) rfl
set_option maxRecDepth 20000 in
theorem t1_113 : (.code yX8_init cX8_init 1 none : Cond) ∈ TT := tb1 113 rfl rfl
set_option maxRecDepth 20000 in
theorem t1_114 : (.methodLink RX8 3 objectInit : Cond) ∈ TT := tb1 114 (by decide +kernel) rfl
set_option maxRecDepth 20000 in
theorem t1_115 : (.fieldLink RX8 9 "FanBlades$Word" "letters" "[I" : Cond) ∈ TT := tb1 115 (by decide +kernel) rfl
set_option maxRecDepth 20000 in
theorem t1_116 : (.fieldLink RX8 15 "FanBlades$Word" "length" "I" : Cond) ∈ TT := tb1 116 (by decide +kernel) rfl
set_option maxRecDepth 20000 in
theorem t1_117 : (.laysFinal RX8 "FanBlades$Word" "letters" "[I" : Cond) ∈ TT := tb1 117 (by decide +kernel) rfl
set_option maxRecDepth 20000 in
theorem t1_119 : (.lays RX8 "FanBlades$Word" "length" "I" : Cond) ∈ TT := tb1 119 (by decide +kernel) rfl
set_option maxRecDepth 20000 in
theorem t1_122 : (.classLink RX9 58 RX0 : Cond) ∈ TT := tb1 122 (by decide +kernel) rfl
set_option maxRecDepth 20000 in
theorem t1_123 : (.instantiable RX0 2 : Cond) ∈ TT := tb1 123 (by decide +kernel) rfl
set_option maxRecDepth 20000 in
theorem t1_125 : (.instanceMethod yX0_init : Cond) ∈ TT := tb1 125 (by decide +kernel) rfl
set_option maxRecDepth 20000 in
theorem t1_126 : (.code yX0_init cX0_init 1 none : Cond) ∈ TT := tb1 126 rfl rfl
set_option maxRecDepth 20000 in
theorem t1_127 : (.methodLink RX0 3 objectInit : Cond) ∈ TT := tb1 127 (by decide +kernel) rfl
set_option maxRecDepth 20000 in
theorem t1_128 : (.classLink RX0 9 "[[I" : Cond) ∈ TT := tb1 128 (by decide +kernel) rfl
set_option maxRecDepth 20000 in
theorem t1_129 : (.fieldLink RX0 11 "FanBlades$Acts" "rows" "[[I" : Cond) ∈ TT := tb1 129 (by decide +kernel) rfl
set_option maxRecDepth 20000 in
theorem t1_130 : (.fieldLink RX0 16 "FanBlades$Acts" "size" "I" : Cond) ∈ TT := tb1 130 (by decide +kernel) rfl
set_option maxRecDepth 20000 in
theorem t1_131 : (.laysFinal RX0 "FanBlades$Acts" "rows" "[[I" : Cond) ∈ TT := tb1 131 (by decide +kernel) rfl
set_option maxRecDepth 20000 in
theorem t1_133 : (.lays RX0 "FanBlades$Acts" "size" "I" : Cond) ∈ TT := tb1 133 (by decide +kernel) rfl
set_option maxRecDepth 20000 in
theorem t1_136 : (.classLink RX9 65 RX4 : Cond) ∈ TT := tb1 136 (by decide +kernel) rfl
set_option maxRecDepth 20000 in
theorem t1_137 : (.instantiable RX4 2 : Cond) ∈ TT := tb1 137 (by decide +kernel) rfl
set_option maxRecDepth 20000 in
theorem t1_139 : (.instanceMethod yX4_init : Cond) ∈ TT := tb1 139 (by decide +kernel) rfl
set_option maxRecDepth 20000 in
theorem t1_140 : (.code yX4_init cX4_init 1 none : Cond) ∈ TT := tb1 140 rfl rfl
set_option maxRecDepth 20000 in
theorem t1_141 : (.methodLink RX4 3 objectInit : Cond) ∈ TT := tb1 141 (by decide +kernel) rfl
set_option maxRecDepth 20000 in
theorem t1_142 : (.classLink RX4 9 "[[I" : Cond) ∈ TT := tb1 142 (by decide +kernel) rfl
set_option maxRecDepth 20000 in
theorem t1_143 : (.fieldLink RX4 11 "FanBlades$Slots" "rows" "[[I" : Cond) ∈ TT := tb1 143 (by decide +kernel) rfl
set_option maxRecDepth 20000 in
theorem t1_144 : (.fieldLink RX4 16 "FanBlades$Slots" "kept" "[Z" : Cond) ∈ TT := tb1 144 (by decide +kernel) rfl
set_option maxRecDepth 20000 in
theorem t1_145 : (.laysFinal RX4 "FanBlades$Slots" "rows" "[[I" : Cond) ∈ TT := tb1 145 (by decide +kernel) rfl
set_option maxRecDepth 20000 in
theorem t1_147 : (.laysFinal RX4 "FanBlades$Slots" "kept" "[Z" : Cond) ∈ TT := tb1 147 (by decide +kernel) rfl
set_option maxRecDepth 20000 in
theorem t1_150 : (.arrayClass .boolean : Cond) ∈ TT := tb1 150 (by decide +kernel) rfl
set_option maxRecDepth 20000 in
theorem t1_151 : (.classLink RX9 72 RX5 : Cond) ∈ TT := tb1 151 (by decide +kernel) rfl
set_option maxRecDepth 20000 in
theorem t1_152 : (.instantiable RX5 4 : Cond) ∈ TT := tb1 152 (by decide +kernel) rfl
set_option maxRecDepth 20000 in
theorem t1_154 : (.instanceMethod yX5_init : Cond) ∈ TT := tb1 154 (by decide +kernel) rfl
set_option maxRecDepth 20000 in
theorem t1_155 : (.code yX5_init cX5_init 1 none : Cond) ∈ TT := tb1 155 rfl rfl
set_option maxRecDepth 20000 in
theorem t1_156 : (.methodLink RX5 3 objectInit : Cond) ∈ TT := tb1 156 (by decide +kernel) rfl
set_option maxRecDepth 20000 in
theorem t1_157 : (.fieldLink RX5 9 "FanBlades$Spied" "places" "[I" : Cond) ∈ TT := tb1 157 (by decide +kernel) rfl
set_option maxRecDepth 20000 in
theorem t1_158 : (.fieldLink RX5 15 "FanBlades$Spied" "letters" "[I" : Cond) ∈ TT := tb1 158 (by decide +kernel) rfl
set_option maxRecDepth 20000 in
theorem t1_159 : (.fieldLink RX5 18 "FanBlades$Spied" "seen" "[Z" : Cond) ∈ TT := tb1 159 (by decide +kernel) rfl
set_option maxRecDepth 20000 in
theorem t1_160 : (.fieldLink RX5 22 "FanBlades$Spied" "size" "I" : Cond) ∈ TT := tb1 160 (by decide +kernel) rfl
set_option maxRecDepth 20000 in
theorem t1_161 : (.laysFinal RX5 "FanBlades$Spied" "places" "[I" : Cond) ∈ TT := tb1 161 (by decide +kernel) rfl
set_option maxRecDepth 20000 in
theorem t1_163 : (.laysFinal RX5 "FanBlades$Spied" "letters" "[I" : Cond) ∈ TT := tb1 163 (by decide +kernel) rfl
set_option maxRecDepth 20000 in
theorem t1_165 : (.laysFinal RX5 "FanBlades$Spied" "seen" "[Z" : Cond) ∈ TT := tb1 165 (by decide +kernel) rfl
set_option maxRecDepth 20000 in
theorem t1_167 : (.lays RX5 "FanBlades$Spied" "size" "I" : Cond) ∈ TT := tb1 167 (by decide +kernel) rfl
set_option maxRecDepth 20000 in
theorem t1_170 : (.fieldLink RX9 12 "FanBlades" "text" "LFanBlades$Letters;" : Cond) ∈ TT := tb1 170 (by decide +kernel) rfl
set_option maxRecDepth 20000 in
theorem t1_171 : (.fieldLink RX9 19 "FanBlades" "blades" "LFanBlades$Blades;" : Cond) ∈ TT := tb1 171 (by decide +kernel) rfl
set_option maxRecDepth 20000 in
theorem t1_172 : (.fieldLink RX9 28 "FanBlades" "now" "LFanBlades$GapRow;" : Cond) ∈ TT := tb1 172 (by decide +kernel) rfl
set_option maxRecDepth 20000 in
theorem t1_173 : (.fieldLink RX9 32 "FanBlades" "trial" "LFanBlades$GapRow;" : Cond) ∈ TT := tb1 173 (by decide +kernel) rfl
set_option maxRecDepth 20000 in
theorem t1_174 : (.fieldLink RX9 38 "FanBlades" "view" "LFanBlades$View;" : Cond) ∈ TT := tb1 174 (by decide +kernel) rfl
set_option maxRecDepth 20000 in
theorem t1_175 : (.fieldLink RX9 47 "FanBlades" "ways" "LFanBlades$Ways;" : Cond) ∈ TT := tb1 175 (by decide +kernel) rfl
set_option maxRecDepth 20000 in
theorem t1_176 : (.fieldLink RX9 54 "FanBlades" "told" "LFanBlades$Word;" : Cond) ∈ TT := tb1 176 (by decide +kernel) rfl
set_option maxRecDepth 20000 in
theorem t1_177 : (.fieldLink RX9 61 "FanBlades" "acts" "LFanBlades$Acts;" : Cond) ∈ TT := tb1 177 (by decide +kernel) rfl
set_option maxRecDepth 20000 in
theorem t1_178 : (.fieldLink RX9 68 "FanBlades" "slots" "LFanBlades$Slots;" : Cond) ∈ TT := tb1 178 (by decide +kernel) rfl
set_option maxRecDepth 20000 in
theorem t1_179 : (.fieldLink RX9 75 "FanBlades" "spied" "LFanBlades$Spied;" : Cond) ∈ TT := tb1 179 (by decide +kernel) rfl
set_option maxRecDepth 20000 in
theorem t1_180 : (.fieldLink RX9 79 "FanBlades" "oneHas" "[I" : Cond) ∈ TT := tb1 180 (by decide +kernel) rfl
set_option maxRecDepth 20000 in
theorem t1_181 : (.fieldLink RX9 83 "FanBlades" "otherHas" "[I" : Cond) ∈ TT := tb1 181 (by decide +kernel) rfl
set_option maxRecDepth 20000 in
theorem t1_182 : (.fieldLink RX9 86 "FanBlades" "doings" "[I" : Cond) ∈ TT := tb1 182 (by decide +kernel) rfl
set_option maxRecDepth 20000 in
theorem t1_183 : (.fieldLink RX9 260 "FanBlades" "seedNow" "J" : Cond) ∈ TT := tb1 183 (by decide +kernel) rfl
set_option maxRecDepth 20000 in
theorem t1_184 : (.laysFinal RX9 "FanBlades" "text" "LFanBlades$Letters;" : Cond) ∈ TT := tb1 184 (by decide +kernel) rfl
set_option maxRecDepth 20000 in
theorem t1_186 : (.laysFinal RX9 "FanBlades" "blades" "LFanBlades$Blades;" : Cond) ∈ TT := tb1 186 (by decide +kernel) rfl
set_option maxRecDepth 20000 in
theorem t1_188 : (.laysFinal RX9 "FanBlades" "now" "LFanBlades$GapRow;" : Cond) ∈ TT := tb1 188 (by decide +kernel) rfl
set_option maxRecDepth 20000 in
theorem t1_190 : (.laysFinal RX9 "FanBlades" "trial" "LFanBlades$GapRow;" : Cond) ∈ TT := tb1 190 (by decide +kernel) rfl
set_option maxRecDepth 20000 in
theorem t1_192 : (.laysFinal RX9 "FanBlades" "view" "LFanBlades$View;" : Cond) ∈ TT := tb1 192 (by decide +kernel) rfl
set_option maxRecDepth 20000 in
theorem t1_194 : (.laysFinal RX9 "FanBlades" "ways" "LFanBlades$Ways;" : Cond) ∈ TT := tb1 194 (by decide +kernel) rfl
set_option maxRecDepth 20000 in
theorem t1_196 : (.laysFinal RX9 "FanBlades" "told" "LFanBlades$Word;" : Cond) ∈ TT := tb1 196 (by decide +kernel) rfl
set_option maxRecDepth 20000 in
theorem t1_198 : (.laysFinal RX9 "FanBlades" "acts" "LFanBlades$Acts;" : Cond) ∈ TT := tb1 198 (by decide +kernel) rfl
set_option maxRecDepth 20000 in
theorem t1_200 : (.laysFinal RX9 "FanBlades" "slots" "LFanBlades$Slots;" : Cond) ∈ TT := tb1 200 (by decide +kernel) rfl
set_option maxRecDepth 20000 in
theorem t1_202 : (.laysFinal RX9 "FanBlades" "spied" "LFanBlades$Spied;" : Cond) ∈ TT := tb1 202 (by decide +kernel) rfl
set_option maxRecDepth 20000 in
theorem t1_204 : (.laysFinal RX9 "FanBlades" "oneHas" "[I" : Cond) ∈ TT := tb1 204 (by decide +kernel) rfl
set_option maxRecDepth 20000 in
theorem t1_206 : (.laysFinal RX9 "FanBlades" "otherHas" "[I" : Cond) ∈ TT := tb1 206 (by decide +kernel) rfl
set_option maxRecDepth 20000 in
theorem t1_208 : (.laysFinal RX9 "FanBlades" "doings" "[I" : Cond) ∈ TT := tb1 208 (by decide +kernel) rfl
set_option maxRecDepth 20000 in
theorem t1_210 : (.lays RX9 "FanBlades" "seedNow" "J" : Cond) ∈ TT := tb1 210 (by decide +kernel) rfl
set_option maxRecDepth 20000 in
theorem t1_213 : (.methodLink RL 13 yX9_write : Cond) ∈ TT := tb1 213 (by decide +kernel) rfl
set_option maxRecDepth 20000 in
theorem t1_214 : (.instanceMethod yX9_write : Cond) ∈ TT := tb1 214 (by decide +kernel) rfl
set_option maxRecDepth 20000 in
theorem t1_215 : (.selects RX9 yX9_write yX9_write : Cond) ∈ TT := tb1 215 (by decide +kernel) rfl
set_option maxRecDepth 20000 in
theorem t1_216 : (.code yX9_write cX9_write 2 (some .int) : Cond) ∈ TT := tb1 216 rfl rfl
set_option maxRecDepth 20000 in
theorem t1_217 : (.methodLink RX9 89 yX3_append : Cond) ∈ TT := tb1 217 (by decide +kernel) rfl
set_option maxRecDepth 20000 in
theorem t1_218 : (.instanceMethod yX3_append : Cond) ∈ TT := tb1 218 (by decide +kernel) rfl
set_option maxRecDepth 20000 in
theorem t1_219 : (.selects RX3 yX3_append yX3_append : Cond) ∈ TT := tb1 219 (by decide +kernel) rfl
set_option maxRecDepth 20000 in
theorem t1_220 : (.code yX3_append cX3_append 2 (some .boolean) : Cond) ∈ TT := tb1 220 rfl rfl
set_option maxRecDepth 20000 in
theorem t1_221 : (.methodLink RX9 93 yX3_length : Cond) ∈ TT := tb1 221 (by decide +kernel) rfl
set_option maxRecDepth 20000 in
theorem t1_222 : (.instanceMethod yX3_length : Cond) ∈ TT := tb1 222 (by decide +kernel) rfl
set_option maxRecDepth 20000 in
theorem t1_223 : (.selects RX3 yX3_length yX3_length : Cond) ∈ TT := tb1 223 (by decide +kernel) rfl
set_option maxRecDepth 20000 in
theorem t1_224 : (.code yX3_length cX3_length 1 (some .int) : Cond) ∈ TT := tb1 224 rfl rfl
set_option maxRecDepth 20000 in
theorem t1_225 : (.methodLink RL 18 yX9_wipe : Cond) ∈ TT := tb1 225 (by decide +kernel) rfl
set_option maxRecDepth 20000 in
theorem t1_226 : (.instanceMethod yX9_wipe : Cond) ∈ TT := tb1 226 (by decide +kernel) rfl
set_option maxRecDepth 20000 in
theorem t1_227 : (.selects RX9 yX9_wipe yX9_wipe : Cond) ∈ TT := tb1 227 (by decide +kernel) rfl
set_option maxRecDepth 20000 in
theorem t1_228 : (.code yX9_wipe cX9_wipe 2 (some .int) : Cond) ∈ TT := tb1 228 rfl rfl
set_option maxRecDepth 20000 in
theorem t1_229 : (.methodLink RX9 97 yX3_clear : Cond) ∈ TT := tb1 229 (by decide +kernel) rfl
set_option maxRecDepth 20000 in
theorem t1_230 : (.instanceMethod yX3_clear : Cond) ∈ TT := tb1 230 (by decide +kernel) rfl
set_option maxRecDepth 20000 in
theorem t1_231 : (.selects RX3 yX3_clear yX3_clear : Cond) ∈ TT := tb1 231 (by decide +kernel) rfl
set_option maxRecDepth 20000 in
theorem t1_232 : (.code yX3_clear cX3_clear 1 none : Cond) ∈ TT := tb1 232 rfl rfl
set_option maxRecDepth 20000 in
theorem t1_233 : (.methodLink RL 23 yX9_fault : Cond) ∈ TT := tb1 233 (by decide +kernel) rfl
set_option maxRecDepth 20000 in
theorem t1_234 : (.instanceMethod yX9_fault : Cond) ∈ TT := tb1 234 (by decide +kernel) rfl
set_option maxRecDepth 20000 in
theorem t1_235 : (.selects RX9 yX9_fault yX9_fault : Cond) ∈ TT := tb1 235 (by decide +kernel) rfl
set_option maxRecDepth 20000 in
theorem t1_236 : (.code yX9_fault cX9_fault 1 (some .int) : Cond) ∈ TT := tb1 236 rfl rfl
set_option maxRecDepth 20000 in
theorem t1_237 : (.methodLink RX9 100 yX3_firstFault : Cond) ∈ TT := tb1 237 (by decide +kernel) rfl
set_option maxRecDepth 20000 in
theorem t1_238 : (.instanceMethod yX3_firstFault : Cond) ∈ TT := tb1 238 (by decide +kernel) rfl
set_option maxRecDepth 20000 in
theorem t1_239 : (.selects RX3 yX3_firstFault yX3_firstFault : Cond) ∈ TT := tb1 239 (by decide +kernel) rfl
set_option maxRecDepth 20000 in
theorem t2_0 : (.code yX3_firstFault cX3_firstFault 2 (some .int) : Cond) ∈ TT := tb2 0 rfl rfl
set_option maxRecDepth 20000 in
theorem t2_1 : (.methodLink RX3 19 yX3_canStand : Cond) ∈ TT := tb2 1 (by decide +kernel) rfl
set_option maxRecDepth 20000 in
theorem t2_2 : (.static yX3_canStand : Cond) ∈ TT := tb2 2 (by decide +kernel) rfl
set_option maxRecDepth 20000 in
theorem t2_3 : (.code yX3_canStand cX3_canStand 2 (some .boolean) : Cond) ∈ TT := tb2 3 rfl rfl
set_option maxRecDepth 20000 in
theorem t2_5 : (.static yX9_isLetter : Cond) ∈ TT := tb2 5 (by decide +kernel) rfl
set_option maxRecDepth 20000 in
theorem t2_6 : (.code yX9_isLetter cX9_isLetter 1 (some .boolean) : Cond) ∈ TT := tb2 6 rfl rfl
set_option maxRecDepth 20000 in
theorem t2_7 : (.methodLink RL 27 yX9_fan : Cond) ∈ TT := tb2 7 (by decide +kernel) rfl
set_option maxRecDepth 20000 in
theorem t2_8 : (.instanceMethod yX9_fan : Cond) ∈ TT := tb2 8 (by decide +kernel) rfl
set_option maxRecDepth 20000 in
theorem t2_9 : (.selects RX9 yX9_fan yX9_fan : Cond) ∈ TT := tb2 9 (by decide +kernel) rfl
set_option maxRecDepth 20000 in
theorem t2_10 : (.code yX9_fan cX9_fan 1 (some .int) : Cond) ∈ TT := tb2 10 rfl rfl
set_option maxRecDepth 20000 in
theorem t2_11 : (.methodLink RX9 103 yX1_take : Cond) ∈ TT := tb2 11 (by decide +kernel) rfl
set_option maxRecDepth 20000 in
theorem t2_12 : (.instanceMethod yX1_take : Cond) ∈ TT := tb2 12 (by decide +kernel) rfl
set_option maxRecDepth 20000 in
theorem t2_13 : (.selects RX1 yX1_take yX1_take : Cond) ∈ TT := tb2 13 (by decide +kernel) rfl
set_option maxRecDepth 20000 in
theorem t2_14 : (.code yX1_take cX1_take 5 none : Cond) ∈ TT := tb2 14 rfl rfl
set_option maxRecDepth 20000 in
theorem t2_15 : (.methodLink RX1 18 yX3_length : Cond) ∈ TT := tb2 15 (by decide +kernel) rfl
set_option maxRecDepth 20000 in
theorem t2_16 : (.methodLink RX1 24 Lib.Math.min.name : Cond) ∈ TT := tb2 16 (by decide +kernel) rfl
set_option maxRecDepth 20000 in
theorem t2_17 : (.static Lib.Math.min.name : Cond) ∈ TT := tb2 17 (by decide +kernel) rfl
set_option maxRecDepth 20000 in
theorem t2_18 : (.code Lib.Math.min.name Lib.Math.min.code 2 (some .int) : Cond) ∈ TT := tb2 18 rfl rfl
set_option maxRecDepth 20000 in
theorem t2_19 : (.methodLink RX1 34 yX3_at : Cond) ∈ TT := tb2 19 (by decide +kernel) rfl
set_option maxRecDepth 20000 in
theorem t2_20 : (.instanceMethod yX3_at : Cond) ∈ TT := tb2 20 (by decide +kernel) rfl
set_option maxRecDepth 20000 in
theorem t2_21 : (.selects RX3 yX3_at yX3_at : Cond) ∈ TT := tb2 21 (by decide +kernel) rfl
set_option maxRecDepth 20000 in
theorem t2_22 : (.code yX3_at cX3_at 2 (some .int) : Cond) ∈ TT := tb2 22 rfl rfl
set_option maxRecDepth 20000 in
theorem t2_23 : (.methodLink RX9 107 yX2_clear : Cond) ∈ TT := tb2 23 (by decide +kernel) rfl
set_option maxRecDepth 20000 in
theorem t2_24 : (.instanceMethod yX2_clear : Cond) ∈ TT := tb2 24 (by decide +kernel) rfl
set_option maxRecDepth 20000 in
theorem t2_25 : (.selects RX2 yX2_clear yX2_clear : Cond) ∈ TT := tb2 25 (by decide +kernel) rfl
set_option maxRecDepth 20000 in
theorem t2_26 : (.code yX2_clear cX2_clear 1 none : Cond) ∈ TT := tb2 26 rfl rfl
set_option maxRecDepth 20000 in
theorem t2_27 : (.methodLink RX2 34 yJ7_fill_53178 : Cond) ∈ TT := tb2 27 (by decide +kernel) rfl
set_option maxRecDepth 20000 in
theorem t2_28 : (.methodLink RX9 108 yX0_clear : Cond) ∈ TT := tb2 28 (by decide +kernel) rfl
set_option maxRecDepth 20000 in
theorem t2_29 : (.instanceMethod yX0_clear : Cond) ∈ TT := tb2 29 (by decide +kernel) rfl
set_option maxRecDepth 20000 in
theorem t2_30 : (.selects RX0 yX0_clear yX0_clear : Cond) ∈ TT := tb2 30 (by decide +kernel) rfl
set_option maxRecDepth 20000 in
theorem t2_31 : (.code yX0_clear cX0_clear 1 none : Cond) ∈ TT := tb2 31 rfl rfl
set_option maxRecDepth 20000 in
theorem t2_32 : (.methodLink RX9 109 yX4_clear : Cond) ∈ TT := tb2 32 (by decide +kernel) rfl
set_option maxRecDepth 20000 in
theorem t2_33 : (.instanceMethod yX4_clear : Cond) ∈ TT := tb2 33 (by decide +kernel) rfl
set_option maxRecDepth 20000 in
theorem t2_34 : (.selects RX4 yX4_clear yX4_clear : Cond) ∈ TT := tb2 34 (by decide +kernel) rfl
set_option maxRecDepth 20000 in
theorem t2_35 : (.code yX4_clear cX4_clear 2 none : Cond) ∈ TT := tb2 35 rfl rfl
set_option maxRecDepth 20000 in
theorem t2_36 : (.methodLink RX9 110 yX1_size : Cond) ∈ TT := tb2 36 (by decide +kernel) rfl
set_option maxRecDepth 20000 in
theorem t2_37 : (.instanceMethod yX1_size : Cond) ∈ TT := tb2 37 (by decide +kernel) rfl
set_option maxRecDepth 20000 in
theorem t2_38 : (.selects RX1 yX1_size yX1_size : Cond) ∈ TT := tb2 38 (by decide +kernel) rfl
set_option maxRecDepth 20000 in
theorem t2_39 : (.code yX1_size cX1_size 1 (some .int) : Cond) ∈ TT := tb2 39 rfl rfl
set_option maxRecDepth 20000 in
theorem t2_40 : (.methodLink RL 33 yX9_word : Cond) ∈ TT := tb2 40 (by decide +kernel) rfl
set_option maxRecDepth 20000 in
theorem t2_41 : (.instanceMethod yX9_word : Cond) ∈ TT := tb2 41 (by decide +kernel) rfl
set_option maxRecDepth 20000 in
theorem t2_42 : (.selects RX9 yX9_word yX9_word : Cond) ∈ TT := tb2 42 (by decide +kernel) rfl
set_option maxRecDepth 20000 in
theorem t2_43 : (.code yX9_word cX9_word 5 (some .int) : Cond) ∈ TT := tb2 43 rfl rfl
set_option maxRecDepth 20000 in
theorem t2_44 : (.methodLink RX9 113 yX9_hasFigures : Cond) ∈ TT := tb2 44 (by decide +kernel) rfl
set_option maxRecDepth 20000 in
theorem t2_45 : (.static yX9_hasFigures : Cond) ∈ TT := tb2 45 (by decide +kernel) rfl
set_option maxRecDepth 20000 in
theorem t2_46 : (.code yX9_hasFigures cX9_hasFigures 3 (some .boolean) : Cond) ∈ TT := tb2 46 rfl rfl
set_option maxRecDepth 20000 in
theorem t2_47 : (.methodLink RX9 289 yX9_tenTo : Cond) ∈ TT := tb2 47 (by decide +kernel) rfl
set_option maxRecDepth 20000 in
theorem t2_48 : (.static yX9_tenTo : Cond) ∈ TT := tb2 48 (by decide +kernel) rfl
set_option maxRecDepth 20000 in
theorem t2_49 : (.code yX9_tenTo cX9_tenTo 4 (some .long) : Cond) ∈ TT := tb2 49 rfl rfl
set_option maxRecDepth 20000 in
theorem t2_50 : (.constantLong RX9 287 10 : Cond) ∈ TT := tb2 50 (by decide +kernel) rfl
set_option maxRecDepth 20000 in
theorem t2_51 : (.methodLink RX9 117 yX9_areLetters : Cond) ∈ TT := tb2 51 (by decide +kernel) rfl
set_option maxRecDepth 20000 in
theorem t2_52 : (.static yX9_areLetters : Cond) ∈ TT := tb2 52 (by decide +kernel) rfl
set_option maxRecDepth 20000 in
theorem t2_53 : (.code yX9_areLetters cX9_areLetters 6 (some .boolean) : Cond) ∈ TT := tb2 53 rfl rfl
set_option maxRecDepth 20000 in
theorem t2_54 : (.constantLong RX9 293 100 : Cond) ∈ TT := tb2 54 (by decide +kernel) rfl
set_option maxRecDepth 20000 in
theorem t2_55 : (.constantLong RX9 295 25 : Cond) ∈ TT := tb2 55 (by decide +kernel) rfl
set_option maxRecDepth 20000 in
theorem t2_56 : (.methodLink RX9 121 yX8_length : Cond) ∈ TT := tb2 56 (by decide +kernel) rfl
set_option maxRecDepth 20000 in
theorem t2_57 : (.instanceMethod yX8_length : Cond) ∈ TT := tb2 57 (by decide +kernel) rfl
set_option maxRecDepth 20000 in
theorem t2_58 : (.selects RX8 yX8_length yX8_length : Cond) ∈ TT := tb2 58 (by decide +kernel) rfl
set_option maxRecDepth 20000 in
theorem t2_59 : (.code yX8_length cX8_length 1 (some .int) : Cond) ∈ TT := tb2 59 rfl rfl
set_option maxRecDepth 20000 in
theorem t2_60 : (.methodLink RX9 122 yX8_take : Cond) ∈ TT := tb2 60 (by decide +kernel) rfl
set_option maxRecDepth 20000 in
theorem t2_61 : (.instanceMethod yX8_take : Cond) ∈ TT := tb2 61 (by decide +kernel) rfl
set_option maxRecDepth 20000 in
theorem t2_62 : (.selects RX8 yX8_take yX8_take : Cond) ∈ TT := tb2 62 (by decide +kernel) rfl
set_option maxRecDepth 20000 in
theorem t2_63 : (.code yX8_take cX8_take 7 none : Cond) ∈ TT := tb2 63 rfl rfl
set_option maxRecDepth 20000 in
theorem t2_64 : (.methodLink RX8 19 Lib.Math.min.name : Cond) ∈ TT := tb2 64 (by decide +kernel) rfl
set_option maxRecDepth 20000 in
theorem t2_65 : (.methodLink RX8 25 Lib.Math.max.name : Cond) ∈ TT := tb2 65 (by decide +kernel) rfl
set_option maxRecDepth 20000 in
theorem t2_66 : (.static Lib.Math.max.name : Cond) ∈ TT := tb2 66 (by decide +kernel) rfl
set_option maxRecDepth 20000 in
theorem t2_67 : (.code Lib.Math.max.name Lib.Math.max.code 2 (some .int) : Cond) ∈ TT := tb2 67 rfl rfl
set_option maxRecDepth 20000 in
theorem t2_68 : (.constantLong RX8 28 97 : Cond) ∈ TT := tb2 68 (by decide +kernel) rfl
set_option maxRecDepth 20000 in
theorem t2_69 : (.constantLong RX8 30 100 : Cond) ∈ TT := tb2 69 (by decide +kernel) rfl
set_option maxRecDepth 20000 in
theorem t2_70 : (.methodLink RL 38 yX9_blade : Cond) ∈ TT := tb2 70 (by decide +kernel) rfl
set_option maxRecDepth 20000 in
theorem t2_71 : (.instanceMethod yX9_blade : Cond) ∈ TT := tb2 71 (by decide +kernel) rfl
set_option maxRecDepth 20000 in
theorem t2_72 : (.selects RX9 yX9_blade yX9_blade : Cond) ∈ TT := tb2 72 (by decide +kernel) rfl
set_option maxRecDepth 20000 in
theorem t2_73 : (.code yX9_blade cX9_blade 3 (some .int) : Cond) ∈ TT := tb2 73 rfl rfl
set_option maxRecDepth 20000 in
theorem t2_74 : (.methodLink RX9 125 yX1_has : Cond) ∈ TT := tb2 74 (by decide +kernel) rfl
set_option maxRecDepth 20000 in
theorem t2_75 : (.instanceMethod yX1_has : Cond) ∈ TT := tb2 75 (by decide +kernel) rfl
set_option maxRecDepth 20000 in
theorem t2_76 : (.selects RX1 yX1_has yX1_has : Cond) ∈ TT := tb2 76 (by decide +kernel) rfl
set_option maxRecDepth 20000 in
theorem t2_77 : (.code yX1_has cX1_has 2 (some .boolean) : Cond) ∈ TT := tb2 77 rfl rfl
set_option maxRecDepth 20000 in
theorem t2_78 : (.methodLink RX9 128 yX1_kindOf : Cond) ∈ TT := tb2 78 (by decide +kernel) rfl
set_option maxRecDepth 20000 in
theorem t2_79 : (.instanceMethod yX1_kindOf : Cond) ∈ TT := tb2 79 (by decide +kernel) rfl
set_option maxRecDepth 20000 in
theorem t2_80 : (.selects RX1 yX1_kindOf yX1_kindOf : Cond) ∈ TT := tb2 80 (by decide +kernel) rfl
set_option maxRecDepth 20000 in
theorem t2_81 : (.code yX1_kindOf cX1_kindOf 2 (some .int) : Cond) ∈ TT := tb2 81 rfl rfl
set_option maxRecDepth 20000 in
theorem t2_82 : (.methodLink RX9 132 yX2_sumAhead : Cond) ∈ TT := tb2 82 (by decide +kernel) rfl
set_option maxRecDepth 20000 in
theorem t2_83 : (.instanceMethod yX2_sumAhead : Cond) ∈ TT := tb2 83 (by decide +kernel) rfl
set_option maxRecDepth 20000 in
theorem t2_84 : (.selects RX2 yX2_sumAhead yX2_sumAhead : Cond) ∈ TT := tb2 84 (by decide +kernel) rfl
set_option maxRecDepth 20000 in
theorem t2_85 : (.code yX2_sumAhead cX2_sumAhead 4 (some .int) : Cond) ∈ TT := tb2 85 rfl rfl
set_option maxRecDepth 20000 in
theorem t2_86 : (.methodLink RX9 135 yX1_widthOf : Cond) ∈ TT := tb2 86 (by decide +kernel) rfl
set_option maxRecDepth 20000 in
theorem t2_87 : (.instanceMethod yX1_widthOf : Cond) ∈ TT := tb2 87 (by decide +kernel) rfl
set_option maxRecDepth 20000 in
theorem t2_88 : (.selects RX1 yX1_widthOf yX1_widthOf : Cond) ∈ TT := tb2 88 (by decide +kernel) rfl
set_option maxRecDepth 20000 in
theorem t2_89 : (.code yX1_widthOf cX1_widthOf 2 (some .int) : Cond) ∈ TT := tb2 89 rfl rfl
set_option maxRecDepth 20000 in
theorem t2_90 : (.methodLink RX1 38 yX1_kindOf : Cond) ∈ TT := tb2 90 (by decide +kernel) rfl
set_option maxRecDepth 20000 in
theorem t2_91 : (.methodLink RX9 138 yX6_layAll : Cond) ∈ TT := tb2 91 (by decide +kernel) rfl
set_option maxRecDepth 20000 in
theorem t2_92 : (.instanceMethod yX6_layAll : Cond) ∈ TT := tb2 92 (by decide +kernel) rfl
set_option maxRecDepth 20000 in
theorem t2_93 : (.selects RX6 yX6_layAll yX6_layAll : Cond) ∈ TT := tb2 93 (by decide +kernel) rfl
set_option maxRecDepth 20000 in
theorem t2_94 : (.code yX6_layAll cX6_layAll 3 none : Cond) ∈ TT := tb2 94 rfl rfl
set_option maxRecDepth 20000 in
theorem t2_95 : (.methodLink RX6 34 yX6_layFrom : Cond) ∈ TT := tb2 95 (by decide +kernel) rfl
set_option maxRecDepth 20000 in
theorem t2_96 : (.instanceMethod yX6_layFrom : Cond) ∈ TT := tb2 96 (by decide +kernel) rfl
set_option maxRecDepth 20000 in
theorem t2_97 : (.selects RX6 yX6_layFrom yX6_layFrom : Cond) ∈ TT := tb2 97 (by decide +kernel) rfl
set_option maxRecDepth 20000 in
theorem t2_98 : (.code yX6_layFrom cX6_layFrom 5 none : Cond) ∈ TT := tb2 98 rfl rfl
set_option maxRecDepth 20000 in
theorem t2_99 : (.methodLink RX6 38 yX1_size : Cond) ∈ TT := tb2 99 (by decide +kernel) rfl
set_option maxRecDepth 20000 in
theorem t2_100 : (.methodLink RX6 47 Lib.Math.max.name : Cond) ∈ TT := tb2 100 (by decide +kernel) rfl
set_option maxRecDepth 20000 in
theorem t2_101 : (.methodLink RX6 53 yX2_at : Cond) ∈ TT := tb2 101 (by decide +kernel) rfl
set_option maxRecDepth 20000 in
theorem t2_102 : (.instanceMethod yX2_at : Cond) ∈ TT := tb2 102 (by decide +kernel) rfl
set_option maxRecDepth 20000 in
theorem t2_103 : (.selects RX2 yX2_at yX2_at : Cond) ∈ TT := tb2 103 (by decide +kernel) rfl
set_option maxRecDepth 20000 in
theorem t2_104 : (.code yX2_at cX2_at 2 (some .int) : Cond) ∈ TT := tb2 104 rfl rfl
set_option maxRecDepth 20000 in
theorem t2_105 : (.methodLink RX6 59 arraycopyName : Cond) ∈ TT := tb2 105 (by decide +kernel) rfl
set_option maxRecDepth 20000 in
theorem t2_106 : (.static arraycopyName : Cond) ∈ TT := tb2 106 (by decide +kernel) rfl
set_option maxRecDepth 20000 in
theorem t2_107 : (.native arraycopyName : Cond) ∈ TT := tb2 107 (by decide +kernel) rfl
set_option maxRecDepth 20000 in
theorem t2_108 : (.methodLink RX6 65 yX6_lay : Cond) ∈ TT := tb2 108 (by decide +kernel) rfl
set_option maxRecDepth 20000 in
theorem t2_110 : (.instanceMethod yX6_lay : Cond) ∈ TT := tb2 110 (by decide +kernel) rfl
set_option maxRecDepth 20000 in
theorem t2_111 : (.code yX6_lay cX6_lay 5 none : Cond) ∈ TT := tb2 111 rfl rfl
set_option maxRecDepth 20000 in
theorem t2_113 : (.static yX9_isPlace : Cond) ∈ TT := tb2 113 (by decide +kernel) rfl
set_option maxRecDepth 20000 in
theorem t2_114 : (.code yX9_isPlace cX9_isPlace 1 (some .boolean) : Cond) ∈ TT := tb2 114 rfl rfl
set_option maxRecDepth 20000 in
theorem t2_115 : (.methodLink RX6 73 yX1_isSolid : Cond) ∈ TT := tb2 115 (by decide +kernel) rfl
set_option maxRecDepth 20000 in
theorem t2_116 : (.instanceMethod yX1_isSolid : Cond) ∈ TT := tb2 116 (by decide +kernel) rfl
set_option maxRecDepth 20000 in
theorem t2_117 : (.selects RX1 yX1_isSolid yX1_isSolid : Cond) ∈ TT := tb2 117 (by decide +kernel) rfl
set_option maxRecDepth 20000 in
theorem t2_118 : (.code yX1_isSolid cX1_isSolid 3 (some .boolean) : Cond) ∈ TT := tb2 118 rfl rfl
set_option maxRecDepth 20000 in
theorem t2_119 : (.methodLink RX6 77 yX6_liesUpper : Cond) ∈ TT := tb2 119 (by decide +kernel) rfl
set_option maxRecDepth 20000 in
theorem t2_121 : (.instanceMethod yX6_liesUpper : Cond) ∈ TT := tb2 121 (by decide +kernel) rfl
set_option maxRecDepth 20000 in
theorem t2_122 : (.code yX6_liesUpper cX6_liesUpper 2 (some .boolean) : Cond) ∈ TT := tb2 122 rfl rfl
set_option maxRecDepth 20000 in
theorem t2_123 : (.methodLink RX6 80 yX1_markOf : Cond) ∈ TT := tb2 123 (by decide +kernel) rfl
set_option maxRecDepth 20000 in
theorem t2_124 : (.instanceMethod yX1_markOf : Cond) ∈ TT := tb2 124 (by decide +kernel) rfl
set_option maxRecDepth 20000 in
theorem t2_125 : (.selects RX1 yX1_markOf yX1_markOf : Cond) ∈ TT := tb2 125 (by decide +kernel) rfl
set_option maxRecDepth 20000 in
theorem t2_126 : (.code yX1_markOf cX1_markOf 4 (some .int) : Cond) ∈ TT := tb2 126 rfl rfl
set_option maxRecDepth 20000 in
theorem t2_127 : (.methodLink RX9 142 yX6_cellsSeen : Cond) ∈ TT := tb2 127 (by decide +kernel) rfl
set_option maxRecDepth 20000 in
theorem t2_128 : (.instanceMethod yX6_cellsSeen : Cond) ∈ TT := tb2 128 (by decide +kernel) rfl
set_option maxRecDepth 20000 in
theorem t2_129 : (.selects RX6 yX6_cellsSeen yX6_cellsSeen : Cond) ∈ TT := tb2 129 (by decide +kernel) rfl
set_option maxRecDepth 20000 in
theorem t2_130 : (.code yX6_cellsSeen cX6_cellsSeen 5 (some .int) : Cond) ∈ TT := tb2 130 rfl rfl
set_option maxRecDepth 20000 in
theorem t2_131 : (.methodLink RX6 93 yX6_reach : Cond) ∈ TT := tb2 131 (by decide +kernel) rfl
set_option maxRecDepth 20000 in
theorem t2_132 : (.instanceMethod yX6_reach : Cond) ∈ TT := tb2 132 (by decide +kernel) rfl
set_option maxRecDepth 20000 in
theorem t2_133 : (.selects RX6 yX6_reach yX6_reach : Cond) ∈ TT := tb2 133 (by decide +kernel) rfl
set_option maxRecDepth 20000 in
theorem t2_134 : (.code yX6_reach cX6_reach 1 (some .int) : Cond) ∈ TT := tb2 134 rfl rfl
set_option maxRecDepth 20000 in
theorem t2_135 : (.methodLink RX6 84 Lib.Math.min.name : Cond) ∈ TT := tb2 135 (by decide +kernel) rfl
set_option maxRecDepth 20000 in
theorem t2_136 : (.methodLink RX6 96 yX6_bladeAt : Cond) ∈ TT := tb2 136 (by decide +kernel) rfl
set_option maxRecDepth 20000 in
theorem t2_137 : (.instanceMethod yX6_bladeAt : Cond) ∈ TT := tb2 137 (by decide +kernel) rfl
set_option maxRecDepth 20000 in
theorem t2_138 : (.selects RX6 yX6_bladeAt yX6_bladeAt : Cond) ∈ TT := tb2 138 (by decide +kernel) rfl
set_option maxRecDepth 20000 in
theorem t2_139 : (.code yX6_bladeAt cX6_bladeAt 3 (some .int) : Cond) ∈ TT := tb2 139 rfl rfl
set_option maxRecDepth 20000 in
theorem t2_140 : (.methodLink RX6 87 yX6_markAt : Cond) ∈ TT := tb2 140 (by decide +kernel) rfl
set_option maxRecDepth 20000 in
theorem t2_142 : (.instanceMethod yX6_markAt : Cond) ∈ TT := tb2 142 (by decide +kernel) rfl
set_option maxRecDepth 20000 in
theorem t2_143 : (.code yX6_markAt cX6_markAt 2 (some .int) : Cond) ∈ TT := tb2 143 rfl rfl
set_option maxRecDepth 20000 in
theorem t2_144 : (.methodLink RX9 145 yX1_hasGap : Cond) ∈ TT := tb2 144 (by decide +kernel) rfl
set_option maxRecDepth 20000 in
theorem t2_145 : (.instanceMethod yX1_hasGap : Cond) ∈ TT := tb2 145 (by decide +kernel) rfl
set_option maxRecDepth 20000 in
theorem t2_146 : (.selects RX1 yX1_hasGap yX1_hasGap : Cond) ∈ TT := tb2 146 (by decide +kernel) rfl
set_option maxRecDepth 20000 in
theorem t2_147 : (.code yX1_hasGap cX1_hasGap 2 (some .boolean) : Cond) ∈ TT := tb2 147 rfl rfl
set_option maxRecDepth 20000 in
theorem t2_148 : (.methodLink RX9 148 yX2_at : Cond) ∈ TT := tb2 148 (by decide +kernel) rfl
set_option maxRecDepth 20000 in
theorem t2_149 : (.methodLink RL 43 yX9_look : Cond) ∈ TT := tb2 149 (by decide +kernel) rfl
set_option maxRecDepth 20000 in
theorem t2_150 : (.instanceMethod yX9_look : Cond) ∈ TT := tb2 150 (by decide +kernel) rfl
set_option maxRecDepth 20000 in
theorem t2_151 : (.selects RX9 yX9_look yX9_look : Cond) ∈ TT := tb2 151 (by decide +kernel) rfl
set_option maxRecDepth 20000 in
theorem t2_152 : (.code yX9_look cX9_look 4 (some .int) : Cond) ∈ TT := tb2 152 rfl rfl
set_option maxRecDepth 20000 in
theorem t2_153 : (.methodLink RX9 151 yX9_isPlace : Cond) ∈ TT := tb2 153 (by decide +kernel) rfl
set_option maxRecDepth 20000 in
theorem t2_154 : (.methodLink RX9 154 yX9_isBit : Cond) ∈ TT := tb2 154 (by decide +kernel) rfl
set_option maxRecDepth 20000 in
theorem t2_155 : (.static yX9_isBit : Cond) ∈ TT := tb2 155 (by decide +kernel) rfl
set_option maxRecDepth 20000 in
theorem t2_156 : (.code yX9_isBit cX9_isBit 1 (some .boolean) : Cond) ∈ TT := tb2 156 rfl rfl
set_option maxRecDepth 20000 in
theorem t2_157 : (.methodLink RX9 157 yX6_letterAt : Cond) ∈ TT := tb2 157 (by decide +kernel) rfl
set_option maxRecDepth 20000 in
theorem t2_158 : (.instanceMethod yX6_letterAt : Cond) ∈ TT := tb2 158 (by decide +kernel) rfl
set_option maxRecDepth 20000 in
theorem t2_159 : (.selects RX6 yX6_letterAt yX6_letterAt : Cond) ∈ TT := tb2 159 (by decide +kernel) rfl
set_option maxRecDepth 20000 in
theorem t2_160 : (.code yX6_letterAt cX6_letterAt 2 (some .int) : Cond) ∈ TT := tb2 160 rfl rfl
set_option maxRecDepth 20000 in
theorem t2_161 : (.methodLink RX6 90 yX1_letterOf : Cond) ∈ TT := tb2 161 (by decide +kernel) rfl
set_option maxRecDepth 20000 in
theorem t2_162 : (.instanceMethod yX1_letterOf : Cond) ∈ TT := tb2 162 (by decide +kernel) rfl
set_option maxRecDepth 20000 in
theorem t2_163 : (.selects RX1 yX1_letterOf yX1_letterOf : Cond) ∈ TT := tb2 163 (by decide +kernel) rfl
set_option maxRecDepth 20000 in
theorem t2_164 : (.code yX1_letterOf cX1_letterOf 2 (some .int) : Cond) ∈ TT := tb2 164 rfl rfl
set_option maxRecDepth 20000 in
theorem t2_165 : (.methodLink RX9 160 yX6_bladeAt : Cond) ∈ TT := tb2 165 (by decide +kernel) rfl
set_option maxRecDepth 20000 in
theorem t2_166 : (.methodLink RL 48 yX9_spread : Cond) ∈ TT := tb2 166 (by decide +kernel) rfl
set_option maxRecDepth 20000 in
theorem t2_167 : (.instanceMethod yX9_spread : Cond) ∈ TT := tb2 167 (by decide +kernel) rfl
set_option maxRecDepth 20000 in
theorem t2_168 : (.selects RX9 yX9_spread yX9_spread : Cond) ∈ TT := tb2 168 (by decide +kernel) rfl
set_option maxRecDepth 20000 in
theorem t2_169 : (.code yX9_spread cX9_spread 2 (some .int) : Cond) ∈ TT := tb2 169 rfl rfl
set_option maxRecDepth 20000 in
theorem t2_170 : (.methodLink RX9 163 yX2_canWiden : Cond) ∈ TT := tb2 170 (by decide +kernel) rfl
set_option maxRecDepth 20000 in
theorem t2_171 : (.instanceMethod yX2_canWiden : Cond) ∈ TT := tb2 171 (by decide +kernel) rfl
set_option maxRecDepth 20000 in
theorem t2_172 : (.selects RX2 yX2_canWiden yX2_canWiden : Cond) ∈ TT := tb2 172 (by decide +kernel) rfl
set_option maxRecDepth 20000 in
theorem t2_173 : (.code yX2_canWiden cX2_canWiden 2 (some .boolean) : Cond) ∈ TT := tb2 173 rfl rfl
set_option maxRecDepth 20000 in
theorem t2_174 : (.methodLink RX2 19 yX1_canPart : Cond) ∈ TT := tb2 174 (by decide +kernel) rfl
set_option maxRecDepth 20000 in
theorem t2_175 : (.instanceMethod yX1_canPart : Cond) ∈ TT := tb2 175 (by decide +kernel) rfl
set_option maxRecDepth 20000 in
theorem t2_176 : (.selects RX1 yX1_canPart yX1_canPart : Cond) ∈ TT := tb2 176 (by decide +kernel) rfl
set_option maxRecDepth 20000 in
theorem t2_177 : (.code yX1_canPart cX1_canPart 2 (some .boolean) : Cond) ∈ TT := tb2 177 rfl rfl
set_option maxRecDepth 20000 in
theorem t2_178 : (.methodLink RX9 166 yX0_remember : Cond) ∈ TT := tb2 178 (by decide +kernel) rfl
set_option maxRecDepth 20000 in
theorem t2_179 : (.instanceMethod yX0_remember : Cond) ∈ TT := tb2 179 (by decide +kernel) rfl
set_option maxRecDepth 20000 in
theorem t2_180 : (.selects RX0 yX0_remember yX0_remember : Cond) ∈ TT := tb2 180 (by decide +kernel) rfl
set_option maxRecDepth 20000 in
theorem t2_181 : (.code yX0_remember cX0_remember 2 none : Cond) ∈ TT := tb2 181 rfl rfl
set_option maxRecDepth 20000 in
theorem t2_182 : (.methodLink RX0 20 yX0_forgetFirst : Cond) ∈ TT := tb2 182 (by decide +kernel) rfl
set_option maxRecDepth 20000 in
theorem t2_184 : (.instanceMethod yX0_forgetFirst : Cond) ∈ TT := tb2 184 (by decide +kernel) rfl
set_option maxRecDepth 20000 in
theorem t2_185 : (.code yX0_forgetFirst cX0_forgetFirst 2 none : Cond) ∈ TT := tb2 185 rfl rfl
set_option maxRecDepth 20000 in
theorem t2_186 : (.methodLink RX0 29 arraycopyName : Cond) ∈ TT := tb2 186 (by decide +kernel) rfl
set_option maxRecDepth 20000 in
theorem t2_187 : (.methodLink RX0 23 yX2_copyTo : Cond) ∈ TT := tb2 187 (by decide +kernel) rfl
set_option maxRecDepth 20000 in
theorem t2_188 : (.instanceMethod yX2_copyTo : Cond) ∈ TT := tb2 188 (by decide +kernel) rfl
set_option maxRecDepth 20000 in
theorem t2_189 : (.selects RX2 yX2_copyTo yX2_copyTo : Cond) ∈ TT := tb2 189 (by decide +kernel) rfl
set_option maxRecDepth 20000 in
theorem t2_190 : (.code yX2_copyTo cX2_copyTo 2 none : Cond) ∈ TT := tb2 190 rfl rfl
set_option maxRecDepth 20000 in
theorem t2_191 : (.methodLink RX2 52 arraycopyName : Cond) ∈ TT := tb2 191 (by decide +kernel) rfl
set_option maxRecDepth 20000 in
theorem t2_192 : (.methodLink RX9 170 yX2_widen : Cond) ∈ TT := tb2 192 (by decide +kernel) rfl
set_option maxRecDepth 20000 in
theorem t2_193 : (.instanceMethod yX2_widen : Cond) ∈ TT := tb2 193 (by decide +kernel) rfl
set_option maxRecDepth 20000 in
theorem t2_194 : (.selects RX2 yX2_widen yX2_widen : Cond) ∈ TT := tb2 194 (by decide +kernel) rfl
set_option maxRecDepth 20000 in
theorem t2_195 : (.code yX2_widen cX2_widen 2 (some .boolean) : Cond) ∈ TT := tb2 195 rfl rfl
set_option maxRecDepth 20000 in
theorem t2_196 : (.methodLink RX2 25 yX2_canWiden : Cond) ∈ TT := tb2 196 (by decide +kernel) rfl
set_option maxRecDepth 20000 in
theorem t2_197 : (.methodLink RL 52 yX9_fold : Cond) ∈ TT := tb2 197 (by decide +kernel) rfl
set_option maxRecDepth 20000 in
theorem t2_198 : (.instanceMethod yX9_fold : Cond) ∈ TT := tb2 198 (by decide +kernel) rfl
set_option maxRecDepth 20000 in
theorem t2_199 : (.selects RX9 yX9_fold yX9_fold : Cond) ∈ TT := tb2 199 (by decide +kernel) rfl
set_option maxRecDepth 20000 in
theorem t2_200 : (.code yX9_fold cX9_fold 2 (some .int) : Cond) ∈ TT := tb2 200 rfl rfl
set_option maxRecDepth 20000 in
theorem t2_201 : (.methodLink RX9 173 yX2_canNarrow : Cond) ∈ TT := tb2 201 (by decide +kernel) rfl
set_option maxRecDepth 20000 in
theorem t2_202 : (.instanceMethod yX2_canNarrow : Cond) ∈ TT := tb2 202 (by decide +kernel) rfl
set_option maxRecDepth 20000 in
theorem t2_203 : (.selects RX2 yX2_canNarrow yX2_canNarrow : Cond) ∈ TT := tb2 203 (by decide +kernel) rfl
set_option maxRecDepth 20000 in
theorem t2_204 : (.code yX2_canNarrow cX2_canNarrow 2 (some .boolean) : Cond) ∈ TT := tb2 204 rfl rfl
set_option maxRecDepth 20000 in
theorem t2_205 : (.methodLink RX9 176 yX2_narrow : Cond) ∈ TT := tb2 205 (by decide +kernel) rfl
set_option maxRecDepth 20000 in
theorem t2_206 : (.instanceMethod yX2_narrow : Cond) ∈ TT := tb2 206 (by decide +kernel) rfl
set_option maxRecDepth 20000 in
theorem t2_207 : (.selects RX2 yX2_narrow yX2_narrow : Cond) ∈ TT := tb2 207 (by decide +kernel) rfl
set_option maxRecDepth 20000 in
theorem t2_208 : (.code yX2_narrow cX2_narrow 2 (some .boolean) : Cond) ∈ TT := tb2 208 rfl rfl
set_option maxRecDepth 20000 in
theorem t2_209 : (.methodLink RX2 28 yX2_canNarrow : Cond) ∈ TT := tb2 209 (by decide +kernel) rfl
set_option maxRecDepth 20000 in
theorem t2_210 : (.methodLink RL 56 yX9_fling : Cond) ∈ TT := tb2 210 (by decide +kernel) rfl
set_option maxRecDepth 20000 in
theorem t2_211 : (.instanceMethod yX9_fling : Cond) ∈ TT := tb2 211 (by decide +kernel) rfl
set_option maxRecDepth 20000 in
theorem t2_212 : (.selects RX9 yX9_fling yX9_fling : Cond) ∈ TT := tb2 212 (by decide +kernel) rfl
set_option maxRecDepth 20000 in
theorem t2_213 : (.code yX9_fling cX9_fling 1 (some .int) : Cond) ∈ TT := tb2 213 rfl rfl
set_option maxRecDepth 20000 in
theorem t2_214 : (.methodLink RX9 179 yX2_widenAll : Cond) ∈ TT := tb2 214 (by decide +kernel) rfl
set_option maxRecDepth 20000 in
theorem t2_215 : (.instanceMethod yX2_widenAll : Cond) ∈ TT := tb2 215 (by decide +kernel) rfl
set_option maxRecDepth 20000 in
theorem t2_216 : (.selects RX2 yX2_widenAll yX2_widenAll : Cond) ∈ TT := tb2 216 (by decide +kernel) rfl
set_option maxRecDepth 20000 in
theorem t2_217 : (.code yX2_widenAll cX2_widenAll 3 (some .int) : Cond) ∈ TT := tb2 217 rfl rfl
set_option maxRecDepth 20000 in
theorem t2_218 : (.methodLink RX2 31 yX2_widen : Cond) ∈ TT := tb2 218 (by decide +kernel) rfl
set_option maxRecDepth 20000 in
theorem t2_219 : (.methodLink RL 60 yX9_snap : Cond) ∈ TT := tb2 219 (by decide +kernel) rfl
set_option maxRecDepth 20000 in
theorem t2_220 : (.instanceMethod yX9_snap : Cond) ∈ TT := tb2 220 (by decide +kernel) rfl
set_option maxRecDepth 20000 in
theorem t2_221 : (.selects RX9 yX9_snap yX9_snap : Cond) ∈ TT := tb2 221 (by decide +kernel) rfl
set_option maxRecDepth 20000 in
theorem t2_222 : (.code yX9_snap cX9_snap 2 (some .int) : Cond) ∈ TT := tb2 222 rfl rfl
set_option maxRecDepth 20000 in
theorem t2_223 : (.methodLink RX9 182 yX2_sum : Cond) ∈ TT := tb2 223 (by decide +kernel) rfl
set_option maxRecDepth 20000 in
theorem t2_224 : (.instanceMethod yX2_sum : Cond) ∈ TT := tb2 224 (by decide +kernel) rfl
set_option maxRecDepth 20000 in
theorem t2_225 : (.selects RX2 yX2_sum yX2_sum : Cond) ∈ TT := tb2 225 (by decide +kernel) rfl
set_option maxRecDepth 20000 in
theorem t2_226 : (.code yX2_sum cX2_sum 1 (some .int) : Cond) ∈ TT := tb2 226 rfl rfl
set_option maxRecDepth 20000 in
theorem t2_227 : (.methodLink RX2 40 yX2_sumAhead : Cond) ∈ TT := tb2 227 (by decide +kernel) rfl
set_option maxRecDepth 20000 in
theorem t2_228 : (.methodLink RL 64 yX9_undo : Cond) ∈ TT := tb2 228 (by decide +kernel) rfl
set_option maxRecDepth 20000 in
theorem t2_229 : (.instanceMethod yX9_undo : Cond) ∈ TT := tb2 229 (by decide +kernel) rfl
set_option maxRecDepth 20000 in
theorem t2_230 : (.selects RX9 yX9_undo yX9_undo : Cond) ∈ TT := tb2 230 (by decide +kernel) rfl
set_option maxRecDepth 20000 in
theorem t2_231 : (.code yX9_undo cX9_undo 1 (some .int) : Cond) ∈ TT := tb2 231 rfl rfl
set_option maxRecDepth 20000 in
theorem t2_232 : (.methodLink RX9 185 yX0_takeBack : Cond) ∈ TT := tb2 232 (by decide +kernel) rfl
set_option maxRecDepth 20000 in
theorem t2_233 : (.instanceMethod yX0_takeBack : Cond) ∈ TT := tb2 233 (by decide +kernel) rfl
set_option maxRecDepth 20000 in
theorem t2_234 : (.selects RX0 yX0_takeBack yX0_takeBack : Cond) ∈ TT := tb2 234 (by decide +kernel) rfl
set_option maxRecDepth 20000 in
theorem t2_235 : (.code yX0_takeBack cX0_takeBack 2 (some .boolean) : Cond) ∈ TT := tb2 235 rfl rfl
set_option maxRecDepth 20000 in
theorem t2_236 : (.methodLink RX0 35 yX2_copyBack : Cond) ∈ TT := tb2 236 (by decide +kernel) rfl
set_option maxRecDepth 20000 in
theorem t2_237 : (.instanceMethod yX2_copyBack : Cond) ∈ TT := tb2 237 (by decide +kernel) rfl
set_option maxRecDepth 20000 in
theorem t2_238 : (.selects RX2 yX2_copyBack yX2_copyBack : Cond) ∈ TT := tb2 238 (by decide +kernel) rfl
set_option maxRecDepth 20000 in
theorem t2_239 : (.code yX2_copyBack cX2_copyBack 2 none : Cond) ∈ TT := tb2 239 rfl rfl
set_option maxRecDepth 20000 in
theorem t3_0 : (.methodLink RX9 189 yX0_size : Cond) ∈ TT := tb3 0 (by decide +kernel) rfl
set_option maxRecDepth 20000 in
theorem t3_1 : (.instanceMethod yX0_size : Cond) ∈ TT := tb3 1 (by decide +kernel) rfl
set_option maxRecDepth 20000 in
theorem t3_2 : (.selects RX0 yX0_size yX0_size : Cond) ∈ TT := tb3 2 (by decide +kernel) rfl
set_option maxRecDepth 20000 in
theorem t3_3 : (.code yX0_size cX0_size 1 (some .int) : Cond) ∈ TT := tb3 3 rfl rfl
set_option maxRecDepth 20000 in
theorem t3_4 : (.methodLink RL 68 yX9_reads : Cond) ∈ TT := tb3 4 (by decide +kernel) rfl
set_option maxRecDepth 20000 in
theorem t3_5 : (.instanceMethod yX9_reads : Cond) ∈ TT := tb3 5 (by decide +kernel) rfl
set_option maxRecDepth 20000 in
theorem t3_6 : (.selects RX9 yX9_reads yX9_reads : Cond) ∈ TT := tb3 6 (by decide +kernel) rfl
set_option maxRecDepth 20000 in
theorem t3_7 : (.code yX9_reads cX9_reads 2 (some .int) : Cond) ∈ TT := tb3 7 rfl rfl
set_option maxRecDepth 20000 in
theorem t3_8 : (.methodLink RX9 190 yX8_firstRead : Cond) ∈ TT := tb3 8 (by decide +kernel) rfl
set_option maxRecDepth 20000 in
theorem t3_9 : (.instanceMethod yX8_firstRead : Cond) ∈ TT := tb3 9 (by decide +kernel) rfl
set_option maxRecDepth 20000 in
theorem t3_10 : (.selects RX8 yX8_firstRead yX8_firstRead : Cond) ∈ TT := tb3 10 (by decide +kernel) rfl
set_option maxRecDepth 20000 in
theorem t3_11 : (.code yX8_firstRead cX8_firstRead 6 (some .int) : Cond) ∈ TT := tb3 11 rfl rfl
set_option maxRecDepth 20000 in
theorem t3_12 : (.methodLink RX8 36 yX6_reach : Cond) ∈ TT := tb3 12 (by decide +kernel) rfl
set_option maxRecDepth 20000 in
theorem t3_13 : (.methodLink RX8 42 yX6_side : Cond) ∈ TT := tb3 13 (by decide +kernel) rfl
set_option maxRecDepth 20000 in
theorem t3_14 : (.instanceMethod yX6_side : Cond) ∈ TT := tb3 14 (by decide +kernel) rfl
set_option maxRecDepth 20000 in
theorem t3_15 : (.selects RX6 yX6_side yX6_side : Cond) ∈ TT := tb3 15 (by decide +kernel) rfl
set_option maxRecDepth 20000 in
theorem t3_16 : (.code yX6_side cX6_side 1 (some .int) : Cond) ∈ TT := tb3 16 rfl rfl
set_option maxRecDepth 20000 in
theorem t3_17 : (.methodLink RX8 45 yX8_isReadAt : Cond) ∈ TT := tb3 17 (by decide +kernel) rfl
set_option maxRecDepth 20000 in
theorem t3_19 : (.instanceMethod yX8_isReadAt : Cond) ∈ TT := tb3 19 (by decide +kernel) rfl
set_option maxRecDepth 20000 in
theorem t3_20 : (.code yX8_isReadAt cX8_isReadAt 5 (some .boolean) : Cond) ∈ TT := tb3 20 rfl rfl
set_option maxRecDepth 20000 in
theorem t3_21 : (.methodLink RX8 49 yX6_letterAt : Cond) ∈ TT := tb3 21 (by decide +kernel) rfl
set_option maxRecDepth 20000 in
theorem t3_22 : (.methodLink RL 72 yX9_open : Cond) ∈ TT := tb3 22 (by decide +kernel) rfl
set_option maxRecDepth 20000 in
theorem t3_23 : (.instanceMethod yX9_open : Cond) ∈ TT := tb3 23 (by decide +kernel) rfl
set_option maxRecDepth 20000 in
theorem t3_24 : (.selects RX9 yX9_open yX9_open : Cond) ∈ TT := tb3 24 (by decide +kernel) rfl
set_option maxRecDepth 20000 in
theorem t3_25 : (.code yX9_open cX9_open 8 (some .int) : Cond) ∈ TT := tb3 25 rfl rfl
set_option maxRecDepth 20000 in
theorem t3_26 : (.methodLink RX9 194 yX7_begin : Cond) ∈ TT := tb3 26 (by decide +kernel) rfl
set_option maxRecDepth 20000 in
theorem t3_27 : (.instanceMethod yX7_begin : Cond) ∈ TT := tb3 27 (by decide +kernel) rfl
set_option maxRecDepth 20000 in
theorem t3_28 : (.selects RX7 yX7_begin yX7_begin : Cond) ∈ TT := tb3 28 (by decide +kernel) rfl
set_option maxRecDepth 20000 in
theorem t3_29 : (.code yX7_begin cX7_begin 2 none : Cond) ∈ TT := tb3 29 rfl rfl
set_option maxRecDepth 20000 in
theorem t3_30 : (.methodLink RX7 23 yX2_clear : Cond) ∈ TT := tb3 30 (by decide +kernel) rfl
set_option maxRecDepth 20000 in
theorem t3_31 : (.methodLink RX7 28 yX6_layAll : Cond) ∈ TT := tb3 31 (by decide +kernel) rfl
set_option maxRecDepth 20000 in
theorem t3_32 : (.methodLink RX9 198 yX2_stepsFrom : Cond) ∈ TT := tb3 32 (by decide +kernel) rfl
set_option maxRecDepth 20000 in
theorem t3_33 : (.instanceMethod yX2_stepsFrom : Cond) ∈ TT := tb3 33 (by decide +kernel) rfl
set_option maxRecDepth 20000 in
theorem t3_34 : (.selects RX2 yX2_stepsFrom yX2_stepsFrom : Cond) ∈ TT := tb3 34 (by decide +kernel) rfl
set_option maxRecDepth 20000 in
theorem t3_35 : (.code yX2_stepsFrom cX2_stepsFrom 4 (some .int) : Cond) ∈ TT := tb3 35 rfl rfl
set_option maxRecDepth 20000 in
theorem t3_36 : (.methodLink RX2 47 Lib.Math.abs.name : Cond) ∈ TT := tb3 36 (by decide +kernel) rfl
set_option maxRecDepth 20000 in
theorem t3_37 : (.static Lib.Math.abs.name : Cond) ∈ TT := tb3 37 (by decide +kernel) rfl
set_option maxRecDepth 20000 in
theorem t3_38 : (.code Lib.Math.abs.name Lib.Math.abs.code 1 (some .int) : Cond) ∈ TT := tb3 38 rfl rfl
set_option maxRecDepth 20000 in
theorem t3_39 : (.methodLink RX9 202 yX8_isRead : Cond) ∈ TT := tb3 39 (by decide +kernel) rfl
set_option maxRecDepth 20000 in
theorem t3_40 : (.instanceMethod yX8_isRead : Cond) ∈ TT := tb3 40 (by decide +kernel) rfl
set_option maxRecDepth 20000 in
theorem t3_41 : (.selects RX8 yX8_isRead yX8_isRead : Cond) ∈ TT := tb3 41 (by decide +kernel) rfl
set_option maxRecDepth 20000 in
theorem t3_42 : (.code yX8_isRead cX8_isRead 2 (some .boolean) : Cond) ∈ TT := tb3 42 rfl rfl
set_option maxRecDepth 20000 in
theorem t3_43 : (.methodLink RX8 32 yX8_firstRead : Cond) ∈ TT := tb3 43 (by decide +kernel) rfl
set_option maxRecDepth 20000 in
theorem t3_44 : (.methodLink RX9 206 yX2_figures : Cond) ∈ TT := tb3 44 (by decide +kernel) rfl
set_option maxRecDepth 20000 in
theorem t3_45 : (.instanceMethod yX2_figures : Cond) ∈ TT := tb3 45 (by decide +kernel) rfl
set_option maxRecDepth 20000 in
theorem t3_46 : (.selects RX2 yX2_figures yX2_figures : Cond) ∈ TT := tb3 46 (by decide +kernel) rfl
set_option maxRecDepth 20000 in
theorem t3_47 : (.code yX2_figures cX2_figures 3 (some .int) : Cond) ∈ TT := tb3 47 rfl rfl
set_option maxRecDepth 20000 in
theorem t3_48 : (.methodLink RX2 44 yX1_hasGap : Cond) ∈ TT := tb3 48 (by decide +kernel) rfl
set_option maxRecDepth 20000 in
theorem t3_49 : (.methodLink RX9 209 yX7_step : Cond) ∈ TT := tb3 49 (by decide +kernel) rfl
set_option maxRecDepth 20000 in
theorem t3_50 : (.instanceMethod yX7_step : Cond) ∈ TT := tb3 50 (by decide +kernel) rfl
set_option maxRecDepth 20000 in
theorem t3_51 : (.selects RX7 yX7_step yX7_step : Cond) ∈ TT := tb3 51 (by decide +kernel) rfl
set_option maxRecDepth 20000 in
theorem t3_52 : (.code yX7_step cX7_step 2 (some .boolean) : Cond) ∈ TT := tb3 52 rfl rfl
set_option maxRecDepth 20000 in
theorem t3_53 : (.methodLink RX7 34 yX1_size : Cond) ∈ TT := tb3 53 (by decide +kernel) rfl
set_option maxRecDepth 20000 in
theorem t3_54 : (.methodLink RX7 40 yX2_widen : Cond) ∈ TT := tb3 54 (by decide +kernel) rfl
set_option maxRecDepth 20000 in
theorem t3_55 : (.methodLink RX7 44 yX6_layFrom : Cond) ∈ TT := tb3 55 (by decide +kernel) rfl
set_option maxRecDepth 20000 in
theorem t3_56 : (.methodLink RX7 48 yX2_close : Cond) ∈ TT := tb3 56 (by decide +kernel) rfl
set_option maxRecDepth 20000 in
theorem t3_57 : (.instanceMethod yX2_close : Cond) ∈ TT := tb3 57 (by decide +kernel) rfl
set_option maxRecDepth 20000 in
theorem t3_58 : (.selects RX2 yX2_close yX2_close : Cond) ∈ TT := tb3 58 (by decide +kernel) rfl
set_option maxRecDepth 20000 in
theorem t3_59 : (.code yX2_close cX2_close 2 none : Cond) ∈ TT := tb3 59 rfl rfl
set_option maxRecDepth 20000 in
theorem t3_60 : (.methodLink RL 76 yX9_most : Cond) ∈ TT := tb3 60 (by decide +kernel) rfl
set_option maxRecDepth 20000 in
theorem t3_61 : (.instanceMethod yX9_most : Cond) ∈ TT := tb3 61 (by decide +kernel) rfl
set_option maxRecDepth 20000 in
theorem t3_62 : (.selects RX9 yX9_most yX9_most : Cond) ∈ TT := tb3 62 (by decide +kernel) rfl
set_option maxRecDepth 20000 in
theorem t3_63 : (.code yX9_most cX9_most 8 (some .int) : Cond) ∈ TT := tb3 63 rfl rfl
set_option maxRecDepth 20000 in
theorem t3_64 : (.methodLink RX9 213 yX9_isLetter : Cond) ∈ TT := tb3 64 (by decide +kernel) rfl
set_option maxRecDepth 20000 in
theorem t3_65 : (.methodLink RX9 216 yX6_placesWith : Cond) ∈ TT := tb3 65 (by decide +kernel) rfl
set_option maxRecDepth 20000 in
theorem t3_66 : (.instanceMethod yX6_placesWith : Cond) ∈ TT := tb3 66 (by decide +kernel) rfl
set_option maxRecDepth 20000 in
theorem t3_67 : (.selects RX6 yX6_placesWith yX6_placesWith : Cond) ∈ TT := tb3 67 (by decide +kernel) rfl
set_option maxRecDepth 20000 in
theorem t3_68 : (.code yX6_placesWith cX6_placesWith 5 (some .int) : Cond) ∈ TT := tb3 68 rfl rfl
set_option maxRecDepth 20000 in
theorem t3_69 : (.methodLink RX6 99 yX6_letterAt : Cond) ∈ TT := tb3 69 (by decide +kernel) rfl
set_option maxRecDepth 20000 in
theorem t3_70 : (.methodLink RL 80 yX9_judge : Cond) ∈ TT := tb3 70 (by decide +kernel) rfl
set_option maxRecDepth 20000 in
theorem t3_71 : (.instanceMethod yX9_judge : Cond) ∈ TT := tb3 71 (by decide +kernel) rfl
set_option maxRecDepth 20000 in
theorem t3_72 : (.selects RX9 yX9_judge yX9_judge : Cond) ∈ TT := tb3 72 (by decide +kernel) rfl
set_option maxRecDepth 20000 in
theorem t3_73 : (.code yX9_judge cX9_judge 8 (some .int) : Cond) ∈ TT := tb3 73 rfl rfl
set_option maxRecDepth 20000 in
theorem t3_74 : (.constantLong RX9 219 1000 : Cond) ∈ TT := tb3 74 (by decide +kernel) rfl
set_option maxRecDepth 20000 in
theorem t3_75 : (.methodLink RX9 221 yX2_copyFrom : Cond) ∈ TT := tb3 75 (by decide +kernel) rfl
set_option maxRecDepth 20000 in
theorem t3_76 : (.instanceMethod yX2_copyFrom : Cond) ∈ TT := tb3 76 (by decide +kernel) rfl
set_option maxRecDepth 20000 in
theorem t3_77 : (.selects RX2 yX2_copyFrom yX2_copyFrom : Cond) ∈ TT := tb3 77 (by decide +kernel) rfl
set_option maxRecDepth 20000 in
theorem t3_78 : (.code yX2_copyFrom cX2_copyFrom 2 none : Cond) ∈ TT := tb3 78 rfl rfl
set_option maxRecDepth 20000 in
theorem t3_79 : (.methodLink RX9 224 yX9_comesTrue : Cond) ∈ TT := tb3 79 (by decide +kernel) rfl
set_option maxRecDepth 20000 in
theorem t3_81 : (.instanceMethod yX9_comesTrue : Cond) ∈ TT := tb3 81 (by decide +kernel) rfl
set_option maxRecDepth 20000 in
theorem t3_82 : (.code yX9_comesTrue cX9_comesTrue 4 (some .boolean) : Cond) ∈ TT := tb3 82 rfl rfl
set_option maxRecDepth 20000 in
theorem t3_83 : (.methodLink RX9 273 yX6_wide : Cond) ∈ TT := tb3 83 (by decide +kernel) rfl
set_option maxRecDepth 20000 in
theorem t3_84 : (.instanceMethod yX6_wide : Cond) ∈ TT := tb3 84 (by decide +kernel) rfl
set_option maxRecDepth 20000 in
theorem t3_85 : (.selects RX6 yX6_wide yX6_wide : Cond) ∈ TT := tb3 85 (by decide +kernel) rfl
set_option maxRecDepth 20000 in
theorem t3_86 : (.code yX6_wide cX6_wide 2 (some .int) : Cond) ∈ TT := tb3 86 rfl rfl
set_option maxRecDepth 20000 in
theorem t3_87 : (.methodLink RL 84 yX9_spy : Cond) ∈ TT := tb3 87 (by decide +kernel) rfl
set_option maxRecDepth 20000 in
theorem t3_88 : (.instanceMethod yX9_spy : Cond) ∈ TT := tb3 88 (by decide +kernel) rfl
set_option maxRecDepth 20000 in
theorem t3_89 : (.selects RX9 yX9_spy yX9_spy : Cond) ∈ TT := tb3 89 (by decide +kernel) rfl
set_option maxRecDepth 20000 in
theorem t3_90 : (.code yX9_spy cX9_spy 4 (some .int) : Cond) ∈ TT := tb3 90 rfl rfl
set_option maxRecDepth 20000 in
theorem t3_91 : (.methodLink RX9 228 yX5_add : Cond) ∈ TT := tb3 91 (by decide +kernel) rfl
set_option maxRecDepth 20000 in
theorem t3_92 : (.instanceMethod yX5_add : Cond) ∈ TT := tb3 92 (by decide +kernel) rfl
set_option maxRecDepth 20000 in
theorem t3_93 : (.selects RX5 yX5_add yX5_add : Cond) ∈ TT := tb3 93 (by decide +kernel) rfl
set_option maxRecDepth 20000 in
theorem t3_94 : (.code yX5_add cX5_add 4 (some .boolean) : Cond) ∈ TT := tb3 94 rfl rfl
set_option maxRecDepth 20000 in
theorem t3_95 : (.methodLink RX9 232 yX5_size : Cond) ∈ TT := tb3 95 (by decide +kernel) rfl
set_option maxRecDepth 20000 in
theorem t3_96 : (.instanceMethod yX5_size : Cond) ∈ TT := tb3 96 (by decide +kernel) rfl
set_option maxRecDepth 20000 in
theorem t3_97 : (.selects RX5 yX5_size yX5_size : Cond) ∈ TT := tb3 97 (by decide +kernel) rfl
set_option maxRecDepth 20000 in
theorem t3_98 : (.code yX5_size cX5_size 1 (some .int) : Cond) ∈ TT := tb3 98 rfl rfl
set_option maxRecDepth 20000 in
theorem t3_99 : (.methodLink RL 88 yX9_unspy : Cond) ∈ TT := tb3 99 (by decide +kernel) rfl
set_option maxRecDepth 20000 in
theorem t3_100 : (.instanceMethod yX9_unspy : Cond) ∈ TT := tb3 100 (by decide +kernel) rfl
set_option maxRecDepth 20000 in
theorem t3_101 : (.selects RX9 yX9_unspy yX9_unspy : Cond) ∈ TT := tb3 101 (by decide +kernel) rfl
set_option maxRecDepth 20000 in
theorem t3_102 : (.code yX9_unspy cX9_unspy 2 (some .int) : Cond) ∈ TT := tb3 102 rfl rfl
set_option maxRecDepth 20000 in
theorem t3_103 : (.methodLink RX9 233 yX5_clear : Cond) ∈ TT := tb3 103 (by decide +kernel) rfl
set_option maxRecDepth 20000 in
theorem t3_104 : (.instanceMethod yX5_clear : Cond) ∈ TT := tb3 104 (by decide +kernel) rfl
set_option maxRecDepth 20000 in
theorem t3_105 : (.selects RX5 yX5_clear yX5_clear : Cond) ∈ TT := tb3 105 (by decide +kernel) rfl
set_option maxRecDepth 20000 in
theorem t3_106 : (.code yX5_clear cX5_clear 1 none : Cond) ∈ TT := tb3 106 rfl rfl
set_option maxRecDepth 20000 in
theorem t3_107 : (.methodLink RL 92 yX9_gaps : Cond) ∈ TT := tb3 107 (by decide +kernel) rfl
set_option maxRecDepth 20000 in
theorem t3_108 : (.instanceMethod yX9_gaps : Cond) ∈ TT := tb3 108 (by decide +kernel) rfl
set_option maxRecDepth 20000 in
theorem t3_109 : (.selects RX9 yX9_gaps yX9_gaps : Cond) ∈ TT := tb3 109 (by decide +kernel) rfl
set_option maxRecDepth 20000 in
theorem t3_110 : (.code yX9_gaps cX9_gaps 6 (some .int) : Cond) ∈ TT := tb3 110 rfl rfl
set_option maxRecDepth 20000 in
theorem t3_111 : (.methodLink RX9 234 yX5_fits : Cond) ∈ TT := tb3 111 (by decide +kernel) rfl
set_option maxRecDepth 20000 in
theorem t3_112 : (.instanceMethod yX5_fits : Cond) ∈ TT := tb3 112 (by decide +kernel) rfl
set_option maxRecDepth 20000 in
theorem t3_113 : (.selects RX5 yX5_fits yX5_fits : Cond) ∈ TT := tb3 113 (by decide +kernel) rfl
set_option maxRecDepth 20000 in
theorem t3_114 : (.code yX5_fits cX5_fits 3 (some .boolean) : Cond) ∈ TT := tb3 114 rfl rfl
set_option maxRecDepth 20000 in
theorem t3_115 : (.methodLink RX5 26 yX6_letterAt : Cond) ∈ TT := tb3 115 (by decide +kernel) rfl
set_option maxRecDepth 20000 in
theorem t3_116 : (.methodLink RL 96 yX9_share : Cond) ∈ TT := tb3 116 (by decide +kernel) rfl
set_option maxRecDepth 20000 in
theorem t3_117 : (.instanceMethod yX9_share : Cond) ∈ TT := tb3 117 (by decide +kernel) rfl
set_option maxRecDepth 20000 in
theorem t3_118 : (.selects RX9 yX9_share yX9_share : Cond) ∈ TT := tb3 118 (by decide +kernel) rfl
set_option maxRecDepth 20000 in
theorem t3_119 : (.code yX9_share cX9_share 6 (some .int) : Cond) ∈ TT := tb3 119 rfl rfl
set_option maxRecDepth 20000 in
theorem t3_120 : (.methodLink RX9 237 yX1_isSolid : Cond) ∈ TT := tb3 120 (by decide +kernel) rfl
set_option maxRecDepth 20000 in
theorem t3_121 : (.methodLink RX9 241 yX9_shareOfPlace : Cond) ∈ TT := tb3 121 (by decide +kernel) rfl
set_option maxRecDepth 20000 in
theorem t3_123 : (.instanceMethod yX9_shareOfPlace : Cond) ∈ TT := tb3 123 (by decide +kernel) rfl
set_option maxRecDepth 20000 in
theorem t3_124 : (.code yX9_shareOfPlace cX9_shareOfPlace 4 (some .int) : Cond) ∈ TT := tb3 124 rfl rfl
set_option maxRecDepth 20000 in
theorem t3_125 : (.methodLink RX9 244 yX9_fraction : Cond) ∈ TT := tb3 125 (by decide +kernel) rfl
set_option maxRecDepth 20000 in
theorem t3_126 : (.static yX9_fraction : Cond) ∈ TT := tb3 126 (by decide +kernel) rfl
set_option maxRecDepth 20000 in
theorem t3_127 : (.code yX9_fraction cX9_fraction 4 (some .int) : Cond) ∈ TT := tb3 127 rfl rfl
set_option maxRecDepth 20000 in
theorem t3_128 : (.methodLink RX9 297 yX9_greatestShared : Cond) ∈ TT := tb3 128 (by decide +kernel) rfl
set_option maxRecDepth 20000 in
theorem t3_129 : (.static yX9_greatestShared : Cond) ∈ TT := tb3 129 (by decide +kernel) rfl
set_option maxRecDepth 20000 in
theorem t3_130 : (.code yX9_greatestShared cX9_greatestShared 6 (some .int) : Cond) ∈ TT := tb3 130 rfl rfl
set_option maxRecDepth 20000 in
theorem t3_131 : (.methodLink RL 101 yX9_rests : Cond) ∈ TT := tb3 131 (by decide +kernel) rfl
set_option maxRecDepth 20000 in
theorem t3_132 : (.instanceMethod yX9_rests : Cond) ∈ TT := tb3 132 (by decide +kernel) rfl
set_option maxRecDepth 20000 in
theorem t3_133 : (.selects RX9 yX9_rests yX9_rests : Cond) ∈ TT := tb3 133 (by decide +kernel) rfl
set_option maxRecDepth 20000 in
theorem t3_134 : (.code yX9_rests cX9_rests 7 (some .int) : Cond) ∈ TT := tb3 134 rfl rfl
set_option maxRecDepth 20000 in
theorem t3_135 : (.methodLink RX9 248 yX9_weighPair : Cond) ∈ TT := tb3 135 (by decide +kernel) rfl
set_option maxRecDepth 20000 in
theorem t3_137 : (.instanceMethod yX9_weighPair : Cond) ∈ TT := tb3 137 (by decide +kernel) rfl
set_option maxRecDepth 20000 in
theorem t3_138 : (.code yX9_weighPair cX9_weighPair 6 none : Cond) ∈ TT := tb3 138 rfl rfl
set_option maxRecDepth 20000 in
theorem t3_139 : (.methodLink RL 105 yX9_drops : Cond) ∈ TT := tb3 139 (by decide +kernel) rfl
set_option maxRecDepth 20000 in
theorem t3_140 : (.instanceMethod yX9_drops : Cond) ∈ TT := tb3 140 (by decide +kernel) rfl
set_option maxRecDepth 20000 in
theorem t3_141 : (.selects RX9 yX9_drops yX9_drops : Cond) ∈ TT := tb3 141 (by decide +kernel) rfl
set_option maxRecDepth 20000 in
theorem t3_142 : (.code yX9_drops cX9_drops 8 (some .int) : Cond) ∈ TT := tb3 142 rfl rfl
set_option maxRecDepth 20000 in
theorem t3_143 : (.methodLink RX9 252 yX9_weightOf : Cond) ∈ TT := tb3 143 (by decide +kernel) rfl
set_option maxRecDepth 20000 in
theorem t3_145 : (.instanceMethod yX9_weightOf : Cond) ∈ TT := tb3 145 (by decide +kernel) rfl
set_option maxRecDepth 20000 in
theorem t3_146 : (.code yX9_weightOf cX9_weightOf 5 (some .int) : Cond) ∈ TT := tb3 146 rfl rfl
set_option maxRecDepth 20000 in
theorem t3_147 : (.methodLink RX9 256 yX6_layStaying : Cond) ∈ TT := tb3 147 (by decide +kernel) rfl
set_option maxRecDepth 20000 in
theorem t3_148 : (.instanceMethod yX6_layStaying : Cond) ∈ TT := tb3 148 (by decide +kernel) rfl
set_option maxRecDepth 20000 in
theorem t3_149 : (.selects RX6 yX6_layStaying yX6_layStaying : Cond) ∈ TT := tb3 149 (by decide +kernel) rfl
set_option maxRecDepth 20000 in
theorem t3_150 : (.code yX6_layStaying cX6_layStaying 4 none : Cond) ∈ TT := tb3 150 rfl rfl
set_option maxRecDepth 20000 in
theorem t3_151 : (.methodLink RL 110 yX9_seed : Cond) ∈ TT := tb3 151 (by decide +kernel) rfl
set_option maxRecDepth 20000 in
theorem t3_152 : (.instanceMethod yX9_seed : Cond) ∈ TT := tb3 152 (by decide +kernel) rfl
set_option maxRecDepth 20000 in
theorem t3_153 : (.selects RX9 yX9_seed yX9_seed : Cond) ∈ TT := tb3 153 (by decide +kernel) rfl
set_option maxRecDepth 20000 in
theorem t3_154 : (.code yX9_seed cX9_seed 5 (some .long) : Cond) ∈ TT := tb3 154 rfl rfl
set_option maxRecDepth 20000 in
theorem t3_155 : (.methodLink RL 115 yX9_years : Cond) ∈ TT := tb3 155 (by decide +kernel) rfl
set_option maxRecDepth 20000 in
theorem t3_156 : (.instanceMethod yX9_years : Cond) ∈ TT := tb3 156 (by decide +kernel) rfl
set_option maxRecDepth 20000 in
theorem t3_157 : (.selects RX9 yX9_years yX9_years : Cond) ∈ TT := tb3 157 (by decide +kernel) rfl
set_option maxRecDepth 20000 in
theorem t3_158 : (.code yX9_years cX9_years 4 (some .int) : Cond) ∈ TT := tb3 158 rfl rfl
set_option maxRecDepth 20000 in
theorem t3_159 : (.constantLong RX9 264 6364136223846793005 : Cond) ∈ TT := tb3 159 (by decide +kernel) rfl
set_option maxRecDepth 20000 in
theorem t3_160 : (.constantLong RX9 266 1442695040888963407 : Cond) ∈ TT := tb3 160 (by decide +kernel) rfl
set_option maxRecDepth 20000 in
theorem t3_161 : (.constantLong RX9 268 16 : Cond) ∈ TT := tb3 161 (by decide +kernel) rfl
set_option maxRecDepth 20000 in
theorem t3_162 : (.methodLink RX9 270 yX9_passYear : Cond) ∈ TT := tb3 162 (by decide +kernel) rfl
set_option maxRecDepth 20000 in
theorem t3_164 : (.instanceMethod yX9_passYear : Cond) ∈ TT := tb3 164 (by decide +kernel) rfl
set_option maxRecDepth 20000 in
theorem t3_165 : (.code yX9_passYear cX9_passYear 2 none : Cond) ∈ TT := tb3 165 rfl rfl
set_option maxRecDepth 20000 in
theorem t3_166 : (.methodLink RL 119 yX9_keep : Cond) ∈ TT := tb3 166 (by decide +kernel) rfl
set_option maxRecDepth 20000 in
theorem t3_167 : (.instanceMethod yX9_keep : Cond) ∈ TT := tb3 167 (by decide +kernel) rfl
set_option maxRecDepth 20000 in
theorem t3_168 : (.selects RX9 yX9_keep yX9_keep : Cond) ∈ TT := tb3 168 (by decide +kernel) rfl
set_option maxRecDepth 20000 in
theorem t3_169 : (.code yX9_keep cX9_keep 2 (some .int) : Cond) ∈ TT := tb3 169 rfl rfl
set_option maxRecDepth 20000 in
theorem t3_170 : (.methodLink RX9 276 yX4_store : Cond) ∈ TT := tb3 170 (by decide +kernel) rfl
set_option maxRecDepth 20000 in
theorem t3_171 : (.instanceMethod yX4_store : Cond) ∈ TT := tb3 171 (by decide +kernel) rfl
set_option maxRecDepth 20000 in
theorem t3_172 : (.selects RX4 yX4_store yX4_store : Cond) ∈ TT := tb3 172 (by decide +kernel) rfl
set_option maxRecDepth 20000 in
theorem t3_173 : (.code yX4_store cX4_store 3 (some .boolean) : Cond) ∈ TT := tb3 173 rfl rfl
set_option maxRecDepth 20000 in
theorem t3_174 : (.methodLink RX4 20 yX4_has : Cond) ∈ TT := tb3 174 (by decide +kernel) rfl
set_option maxRecDepth 20000 in
theorem t3_175 : (.instanceMethod yX4_has : Cond) ∈ TT := tb3 175 (by decide +kernel) rfl
set_option maxRecDepth 20000 in
theorem t3_176 : (.selects RX4 yX4_has yX4_has : Cond) ∈ TT := tb3 176 (by decide +kernel) rfl
set_option maxRecDepth 20000 in
theorem t3_177 : (.code yX4_has cX4_has 2 (some .boolean) : Cond) ∈ TT := tb3 177 rfl rfl
set_option maxRecDepth 20000 in
theorem t3_178 : (.methodLink RX4 24 yX2_copyTo : Cond) ∈ TT := tb3 178 (by decide +kernel) rfl
set_option maxRecDepth 20000 in
theorem t3_179 : (.methodLink RL 123 yX9_again : Cond) ∈ TT := tb3 179 (by decide +kernel) rfl
set_option maxRecDepth 20000 in
theorem t3_180 : (.instanceMethod yX9_again : Cond) ∈ TT := tb3 180 (by decide +kernel) rfl
set_option maxRecDepth 20000 in
theorem t3_181 : (.selects RX9 yX9_again yX9_again : Cond) ∈ TT := tb3 181 (by decide +kernel) rfl
set_option maxRecDepth 20000 in
theorem t3_182 : (.code yX9_again cX9_again 2 (some .int) : Cond) ∈ TT := tb3 182 rfl rfl
set_option maxRecDepth 20000 in
theorem t3_183 : (.methodLink RX9 280 yX4_has : Cond) ∈ TT := tb3 183 (by decide +kernel) rfl
set_option maxRecDepth 20000 in
theorem t3_184 : (.methodLink RX9 281 yX4_restore : Cond) ∈ TT := tb3 184 (by decide +kernel) rfl
set_option maxRecDepth 20000 in
theorem t3_185 : (.instanceMethod yX4_restore : Cond) ∈ TT := tb3 185 (by decide +kernel) rfl
set_option maxRecDepth 20000 in
theorem t3_186 : (.selects RX4 yX4_restore yX4_restore : Cond) ∈ TT := tb3 186 (by decide +kernel) rfl
set_option maxRecDepth 20000 in
theorem t3_187 : (.code yX4_restore cX4_restore 3 (some .boolean) : Cond) ∈ TT := tb3 187 rfl rfl
set_option maxRecDepth 20000 in
theorem t3_188 : (.methodLink RX4 30 yX2_copyBack : Cond) ∈ TT := tb3 188 (by decide +kernel) rfl
set_option maxRecDepth 20000 in
theorem t3_189 : (.methodLink RL 127 yX9_count : Cond) ∈ TT := tb3 189 (by decide +kernel) rfl
set_option maxRecDepth 20000 in
theorem t3_190 : (.instanceMethod yX9_count : Cond) ∈ TT := tb3 190 (by decide +kernel) rfl
set_option maxRecDepth 20000 in
theorem t3_191 : (.selects RX9 yX9_count yX9_count : Cond) ∈ TT := tb3 191 (by decide +kernel) rfl
set_option maxRecDepth 20000 in
theorem t3_192 : (.code yX9_count cX9_count 2 (some .int) : Cond) ∈ TT := tb3 192 rfl rfl
set_option maxRecDepth 20000 in
theorem t3_193 : (.methodLink RX9 284 yX6_placesSeen : Cond) ∈ TT := tb3 193 (by decide +kernel) rfl
set_option maxRecDepth 20000 in
theorem t3_194 : (.instanceMethod yX6_placesSeen : Cond) ∈ TT := tb3 194 (by decide +kernel) rfl
set_option maxRecDepth 20000 in
theorem t3_195 : (.selects RX6 yX6_placesSeen yX6_placesSeen : Cond) ∈ TT := tb3 195 (by decide +kernel) rfl
set_option maxRecDepth 20000 in
theorem t3_196 : (.code yX6_placesSeen cX6_placesSeen 4 (some .int) : Cond) ∈ TT := tb3 196 rfl rfl
set_option maxRecDepth 20000 in
theorem t3_197 : (.classLink RL 10 RX10 : Cond) ∈ TT := tb3 197 (by decide +kernel) rfl
set_option maxRecDepth 20000 in
theorem t3_198 : (.instantiable RX10 21 : Cond) ∈ TT := tb3 198 (by decide +kernel) rfl
set_option maxRecDepth 20000 in
theorem t3_199 : (.methodLink RL 12 yX10_init : Cond) ∈ TT := tb3 199 (by decide +kernel) rfl
set_option maxRecDepth 20000 in
theorem t3_200 : (.instanceMethod yX10_init : Cond) ∈ TT := tb3 200 (by decide +kernel) rfl
set_option maxRecDepth 20000 in
theorem t3_201 : (.code yX10_init cX10_init 1 none : Cond) ∈ TT := tb3 201 rfl rfl
set_option maxRecDepth 20000 in
theorem t3_202 : (.methodLink RX10 1 objectInit : Cond) ∈ TT := tb3 202 (by decide +kernel) rfl
set_option maxRecDepth 20000 in
theorem t3_203 : (.fieldLink RX10 75 "FanBladesModel" "blades" "I" : Cond) ∈ TT := tb3 203 (by decide +kernel) rfl
set_option maxRecDepth 20000 in
theorem t3_204 : (.fieldLink RX10 7 "FanBladesModel" "kind" "[I" : Cond) ∈ TT := tb3 204 (by decide +kernel) rfl
set_option maxRecDepth 20000 in
theorem t3_205 : (.fieldLink RX10 13 "FanBladesModel" "letter" "[I" : Cond) ∈ TT := tb3 205 (by decide +kernel) rfl
set_option maxRecDepth 20000 in
theorem t3_206 : (.fieldLink RX10 16 "FanBladesModel" "now" "[I" : Cond) ∈ TT := tb3 206 (by decide +kernel) rfl
set_option maxRecDepth 20000 in
theorem t3_207 : (.fieldLink RX10 19 "FanBladesModel" "readKind" "[I" : Cond) ∈ TT := tb3 207 (by decide +kernel) rfl
set_option maxRecDepth 20000 in
theorem t3_208 : (.fieldLink RX10 22 "FanBladesModel" "readLetter" "[I" : Cond) ∈ TT := tb3 208 (by decide +kernel) rfl
set_option maxRecDepth 20000 in
theorem t3_209 : (.fieldLink RX10 60 "FanBladesModel" "readBlades" "I" : Cond) ∈ TT := tb3 209 (by decide +kernel) rfl
set_option maxRecDepth 20000 in
theorem t3_210 : (.fieldLink RX10 25 "FanBladesModel" "text" "[I" : Cond) ∈ TT := tb3 210 (by decide +kernel) rfl
set_option maxRecDepth 20000 in
theorem t3_211 : (.fieldLink RX10 56 "FanBladesModel" "length" "I" : Cond) ∈ TT := tb3 211 (by decide +kernel) rfl
set_option maxRecDepth 20000 in
theorem t3_212 : (.fieldLink RX10 94 "FanBladesModel" "wordMany" "I" : Cond) ∈ TT := tb3 212 (by decide +kernel) rfl
set_option maxRecDepth 20000 in
theorem t3_213 : (.fieldLink RX10 28 "FanBladesModel" "word" "[I" : Cond) ∈ TT := tb3 213 (by decide +kernel) rfl
set_option maxRecDepth 20000 in
theorem t3_214 : (.fieldLink RX10 78 "FanBladesModel" "acts" "I" : Cond) ∈ TT := tb3 214 (by decide +kernel) rfl
set_option maxRecDepth 20000 in
theorem t3_215 : (.fieldLink RX10 136 "FanBladesModel" "next" "I" : Cond) ∈ TT := tb3 215 (by decide +kernel) rfl
set_option maxRecDepth 20000 in
theorem t3_216 : (.fieldLink RX10 31 "FanBladesModel" "row" "[I" : Cond) ∈ TT := tb3 216 (by decide +kernel) rfl
set_option maxRecDepth 20000 in
theorem t3_217 : (.fieldLink RX10 196 "FanBladesModel" "spied" "I" : Cond) ∈ TT := tb3 217 (by decide +kernel) rfl
set_option maxRecDepth 20000 in
theorem t3_218 : (.fieldLink RX10 34 "FanBladesModel" "spiedAt" "[I" : Cond) ∈ TT := tb3 218 (by decide +kernel) rfl
set_option maxRecDepth 20000 in
theorem t3_219 : (.fieldLink RX10 37 "FanBladesModel" "spiedLetter" "[I" : Cond) ∈ TT := tb3 219 (by decide +kernel) rfl
set_option maxRecDepth 20000 in
theorem t3_220 : (.fieldLink RX10 40 "FanBladesModel" "spiedSeen" "[I" : Cond) ∈ TT := tb3 220 (by decide +kernel) rfl
set_option maxRecDepth 20000 in
theorem t3_221 : (.fieldLink RX10 223 "FanBladesModel" "seed" "J" : Cond) ∈ TT := tb3 221 (by decide +kernel) rfl
set_option maxRecDepth 20000 in
theorem t3_222 : (.fieldLink RX10 43 "FanBladesModel" "isKept" "[Z" : Cond) ∈ TT := tb3 222 (by decide +kernel) rfl
set_option maxRecDepth 20000 in
theorem t3_223 : (.fieldLink RX10 47 "FanBladesModel" "kept" "[I" : Cond) ∈ TT := tb3 223 (by decide +kernel) rfl
set_option maxRecDepth 20000 in
theorem t3_224 : (.lays RX10 "FanBladesModel" "blades" "I" : Cond) ∈ TT := tb3 224 (by decide +kernel) rfl
set_option maxRecDepth 20000 in
theorem t3_226 : (.laysFinal RX10 "FanBladesModel" "kind" "[I" : Cond) ∈ TT := tb3 226 (by decide +kernel) rfl
set_option maxRecDepth 20000 in
theorem t3_228 : (.laysFinal RX10 "FanBladesModel" "letter" "[I" : Cond) ∈ TT := tb3 228 (by decide +kernel) rfl
set_option maxRecDepth 20000 in
theorem t3_230 : (.laysFinal RX10 "FanBladesModel" "now" "[I" : Cond) ∈ TT := tb3 230 (by decide +kernel) rfl
set_option maxRecDepth 20000 in
theorem t3_232 : (.laysFinal RX10 "FanBladesModel" "readKind" "[I" : Cond) ∈ TT := tb3 232 (by decide +kernel) rfl
set_option maxRecDepth 20000 in
theorem t3_234 : (.laysFinal RX10 "FanBladesModel" "readLetter" "[I" : Cond) ∈ TT := tb3 234 (by decide +kernel) rfl
set_option maxRecDepth 20000 in
theorem t3_236 : (.lays RX10 "FanBladesModel" "readBlades" "I" : Cond) ∈ TT := tb3 236 (by decide +kernel) rfl
set_option maxRecDepth 20000 in
theorem t3_238 : (.laysFinal RX10 "FanBladesModel" "text" "[I" : Cond) ∈ TT := tb3 238 (by decide +kernel) rfl
set_option maxRecDepth 20000 in
theorem t4_0 : (.lays RX10 "FanBladesModel" "length" "I" : Cond) ∈ TT := tb4 0 (by decide +kernel) rfl
set_option maxRecDepth 20000 in
theorem t4_2 : (.lays RX10 "FanBladesModel" "wordMany" "I" : Cond) ∈ TT := tb4 2 (by decide +kernel) rfl
set_option maxRecDepth 20000 in
theorem t4_4 : (.laysFinal RX10 "FanBladesModel" "word" "[I" : Cond) ∈ TT := tb4 4 (by decide +kernel) rfl
set_option maxRecDepth 20000 in
theorem t4_6 : (.lays RX10 "FanBladesModel" "acts" "I" : Cond) ∈ TT := tb4 6 (by decide +kernel) rfl
set_option maxRecDepth 20000 in
theorem t4_8 : (.lays RX10 "FanBladesModel" "next" "I" : Cond) ∈ TT := tb4 8 (by decide +kernel) rfl
set_option maxRecDepth 20000 in
theorem t4_10 : (.laysFinal RX10 "FanBladesModel" "row" "[I" : Cond) ∈ TT := tb4 10 (by decide +kernel) rfl
set_option maxRecDepth 20000 in
theorem t4_12 : (.lays RX10 "FanBladesModel" "spied" "I" : Cond) ∈ TT := tb4 12 (by decide +kernel) rfl
set_option maxRecDepth 20000 in
theorem t4_14 : (.laysFinal RX10 "FanBladesModel" "spiedAt" "[I" : Cond) ∈ TT := tb4 14 (by decide +kernel) rfl
set_option maxRecDepth 20000 in
theorem t4_16 : (.laysFinal RX10 "FanBladesModel" "spiedLetter" "[I" : Cond) ∈ TT := tb4 16 (by decide +kernel) rfl
set_option maxRecDepth 20000 in
theorem t4_18 : (.laysFinal RX10 "FanBladesModel" "spiedSeen" "[I" : Cond) ∈ TT := tb4 18 (by decide +kernel) rfl
set_option maxRecDepth 20000 in
theorem t4_20 : (.lays RX10 "FanBladesModel" "seed" "J" : Cond) ∈ TT := tb4 20 (by decide +kernel) rfl
set_option maxRecDepth 20000 in
theorem t4_22 : (.laysFinal RX10 "FanBladesModel" "isKept" "[Z" : Cond) ∈ TT := tb4 22 (by decide +kernel) rfl
set_option maxRecDepth 20000 in
theorem t4_24 : (.laysFinal RX10 "FanBladesModel" "kept" "[I" : Cond) ∈ TT := tb4 24 (by decide +kernel) rfl
set_option maxRecDepth 20000 in
theorem t4_27 : (.methodLink RL 17 yX10_write : Cond) ∈ TT := tb4 27 (by decide +kernel) rfl
set_option maxRecDepth 20000 in
theorem t4_28 : (.instanceMethod yX10_write : Cond) ∈ TT := tb4 28 (by decide +kernel) rfl
set_option maxRecDepth 20000 in
theorem t4_29 : (.selects RX10 yX10_write yX10_write : Cond) ∈ TT := tb4 29 (by decide +kernel) rfl
set_option maxRecDepth 20000 in
theorem t4_30 : (.code yX10_write cX10_write 2 (some .int) : Cond) ∈ TT := tb4 30 rfl rfl
set_option maxRecDepth 20000 in
theorem t4_31 : (.constantLong RX10 50 255 : Cond) ∈ TT := tb4 31 (by decide +kernel) rfl
set_option maxRecDepth 20000 in
theorem t4_32 : (.methodLink RX10 52 yX10_in : Cond) ∈ TT := tb4 32 (by decide +kernel) rfl
set_option maxRecDepth 20000 in
theorem t4_33 : (.static yX10_in : Cond) ∈ TT := tb4 33 (by decide +kernel) rfl
set_option maxRecDepth 20000 in
theorem t4_34 : (.code yX10_in cX10_in 6 (some .boolean) : Cond) ∈ TT := tb4 34 rfl rfl
set_option maxRecDepth 20000 in
theorem t4_35 : (.methodLink RL 22 yX10_wipe : Cond) ∈ TT := tb4 35 (by decide +kernel) rfl
set_option maxRecDepth 20000 in
theorem t4_36 : (.instanceMethod yX10_wipe : Cond) ∈ TT := tb4 36 (by decide +kernel) rfl
set_option maxRecDepth 20000 in
theorem t4_37 : (.selects RX10 yX10_wipe yX10_wipe : Cond) ∈ TT := tb4 37 (by decide +kernel) rfl
set_option maxRecDepth 20000 in
theorem t4_38 : (.code yX10_wipe cX10_wipe 2 (some .int) : Cond) ∈ TT := tb4 38 rfl rfl
set_option maxRecDepth 20000 in
theorem t4_39 : (.methodLink RL 26 yX10_fault : Cond) ∈ TT := tb4 39 (by decide +kernel) rfl
set_option maxRecDepth 20000 in
theorem t4_40 : (.instanceMethod yX10_fault : Cond) ∈ TT := tb4 40 (by decide +kernel) rfl
set_option maxRecDepth 20000 in
theorem t4_41 : (.selects RX10 yX10_fault yX10_fault : Cond) ∈ TT := tb4 41 (by decide +kernel) rfl
set_option maxRecDepth 20000 in
theorem t4_42 : (.code yX10_fault cX10_fault 1 (some .int) : Cond) ∈ TT := tb4 42 rfl rfl
set_option maxRecDepth 20000 in
theorem t4_43 : (.methodLink RX10 71 yX10_readText : Cond) ∈ TT := tb4 43 (by decide +kernel) rfl
set_option maxRecDepth 20000 in
theorem t4_45 : (.instanceMethod yX10_readText : Cond) ∈ TT := tb4 45 (by decide +kernel) rfl
set_option maxRecDepth 20000 in
theorem t4_46 : (.code yX10_readText cX10_readText 4 (some .int) : Cond) ∈ TT := tb4 46 rfl rfl
set_option maxRecDepth 20000 in
theorem t4_47 : (.constantLong RX10 63 48 : Cond) ∈ TT := tb4 47 (by decide +kernel) rfl
set_option maxRecDepth 20000 in
theorem t4_48 : (.constantLong RX10 65 51 : Cond) ∈ TT := tb4 48 (by decide +kernel) rfl
set_option maxRecDepth 20000 in
theorem t4_49 : (.constantLong RX10 67 97 : Cond) ∈ TT := tb4 49 (by decide +kernel) rfl
set_option maxRecDepth 20000 in
theorem t4_50 : (.constantLong RX10 69 122 : Cond) ∈ TT := tb4 50 (by decide +kernel) rfl
set_option maxRecDepth 20000 in
theorem t4_51 : (.methodLink RL 30 yX10_fan : Cond) ∈ TT := tb4 51 (by decide +kernel) rfl
set_option maxRecDepth 20000 in
theorem t4_52 : (.instanceMethod yX10_fan : Cond) ∈ TT := tb4 52 (by decide +kernel) rfl
set_option maxRecDepth 20000 in
theorem t4_53 : (.selects RX10 yX10_fan yX10_fan : Cond) ∈ TT := tb4 53 (by decide +kernel) rfl
set_option maxRecDepth 20000 in
theorem t4_54 : (.code yX10_fan cX10_fan 2 (some .int) : Cond) ∈ TT := tb4 54 rfl rfl
set_option maxRecDepth 20000 in
theorem t4_55 : (.methodLink RL 37 yX10_word : Cond) ∈ TT := tb4 55 (by decide +kernel) rfl
set_option maxRecDepth 20000 in
theorem t4_56 : (.instanceMethod yX10_word : Cond) ∈ TT := tb4 56 (by decide +kernel) rfl
set_option maxRecDepth 20000 in
theorem t4_57 : (.selects RX10 yX10_word yX10_word : Cond) ∈ TT := tb4 57 (by decide +kernel) rfl
set_option maxRecDepth 20000 in
theorem t4_58 : (.code yX10_word cX10_word 6 (some .int) : Cond) ∈ TT := tb4 58 rfl rfl
set_option maxRecDepth 20000 in
theorem t4_59 : (.constantLong RX10 86 5 : Cond) ∈ TT := tb4 59 (by decide +kernel) rfl
set_option maxRecDepth 20000 in
theorem t4_60 : (.methodLink RX10 88 yX10_hundredTo : Cond) ∈ TT := tb4 60 (by decide +kernel) rfl
set_option maxRecDepth 20000 in
theorem t4_61 : (.static yX10_hundredTo : Cond) ∈ TT := tb4 61 (by decide +kernel) rfl
set_option maxRecDepth 20000 in
theorem t4_62 : (.code yX10_hundredTo cX10_hundredTo 4 (some .long) : Cond) ∈ TT := tb4 62 rfl rfl
set_option maxRecDepth 20000 in
theorem t4_63 : (.constantLong RX10 84 100 : Cond) ∈ TT := tb4 63 (by decide +kernel) rfl
set_option maxRecDepth 20000 in
theorem t4_64 : (.constantLong RX10 92 25 : Cond) ∈ TT := tb4 64 (by decide +kernel) rfl
set_option maxRecDepth 20000 in
theorem t4_65 : (.methodLink RL 42 yX10_blade : Cond) ∈ TT := tb4 65 (by decide +kernel) rfl
set_option maxRecDepth 20000 in
theorem t4_66 : (.instanceMethod yX10_blade : Cond) ∈ TT := tb4 66 (by decide +kernel) rfl
set_option maxRecDepth 20000 in
theorem t4_67 : (.selects RX10 yX10_blade yX10_blade : Cond) ∈ TT := tb4 67 (by decide +kernel) rfl
set_option maxRecDepth 20000 in
theorem t4_68 : (.code yX10_blade cX10_blade 3 (some .int) : Cond) ∈ TT := tb4 68 rfl rfl
set_option maxRecDepth 20000 in
theorem t4_69 : (.methodLink RX10 126 yX10_isBlade : Cond) ∈ TT := tb4 69 (by decide +kernel) rfl
set_option maxRecDepth 20000 in
theorem t4_71 : (.instanceMethod yX10_isBlade : Cond) ∈ TT := tb4 71 (by decide +kernel) rfl
set_option maxRecDepth 20000 in
theorem t4_72 : (.code yX10_isBlade cX10_isBlade 2 (some .boolean) : Cond) ∈ TT := tb4 72 rfl rfl
set_option maxRecDepth 20000 in
theorem t4_73 : (.methodLink RX10 97 yX10_beginOf : Cond) ∈ TT := tb4 73 (by decide +kernel) rfl
set_option maxRecDepth 20000 in
theorem t4_75 : (.instanceMethod yX10_beginOf : Cond) ∈ TT := tb4 75 (by decide +kernel) rfl
set_option maxRecDepth 20000 in
theorem t4_76 : (.code yX10_beginOf cX10_beginOf 5 (some .int) : Cond) ∈ TT := tb4 76 rfl rfl
set_option maxRecDepth 20000 in
theorem t4_77 : (.methodLink RX10 101 yX10_wideOf : Cond) ∈ TT := tb4 77 (by decide +kernel) rfl
set_option maxRecDepth 20000 in
theorem t4_79 : (.instanceMethod yX10_wideOf : Cond) ∈ TT := tb4 79 (by decide +kernel) rfl
set_option maxRecDepth 20000 in
theorem t4_80 : (.code yX10_wideOf cX10_wideOf 2 (some .int) : Cond) ∈ TT := tb4 80 rfl rfl
set_option maxRecDepth 20000 in
theorem t4_81 : (.methodLink RX10 130 yX10_cellsSeen : Cond) ∈ TT := tb4 81 (by decide +kernel) rfl
set_option maxRecDepth 20000 in
theorem t4_83 : (.instanceMethod yX10_cellsSeen : Cond) ∈ TT := tb4 83 (by decide +kernel) rfl
set_option maxRecDepth 20000 in
theorem t4_84 : (.code yX10_cellsSeen cX10_cellsSeen 6 (some .int) : Cond) ∈ TT := tb4 84 rfl rfl
set_option maxRecDepth 20000 in
theorem t4_85 : (.methodLink RX10 115 yX10_bladeAt : Cond) ∈ TT := tb4 85 (by decide +kernel) rfl
set_option maxRecDepth 20000 in
theorem t4_87 : (.instanceMethod yX10_bladeAt : Cond) ∈ TT := tb4 87 (by decide +kernel) rfl
set_option maxRecDepth 20000 in
theorem t4_88 : (.code yX10_bladeAt cX10_bladeAt 8 (some .int) : Cond) ∈ TT := tb4 88 rfl rfl
set_option maxRecDepth 20000 in
theorem t4_89 : (.methodLink RX10 105 yX10_has : Cond) ∈ TT := tb4 89 (by decide +kernel) rfl
set_option maxRecDepth 20000 in
theorem t4_90 : (.static yX10_has : Cond) ∈ TT := tb4 90 (by decide +kernel) rfl
set_option maxRecDepth 20000 in
theorem t4_91 : (.code yX10_has cX10_has 2 (some .boolean) : Cond) ∈ TT := tb4 91 rfl rfl
set_option maxRecDepth 20000 in
theorem t4_92 : (.methodLink RX10 109 yX10_cellAt : Cond) ∈ TT := tb4 92 (by decide +kernel) rfl
set_option maxRecDepth 20000 in
theorem t4_94 : (.instanceMethod yX10_cellAt : Cond) ∈ TT := tb4 94 (by decide +kernel) rfl
set_option maxRecDepth 20000 in
theorem t4_95 : (.code yX10_cellAt cX10_cellAt 5 (some .int) : Cond) ∈ TT := tb4 95 rfl rfl
set_option maxRecDepth 20000 in
theorem t4_96 : (.methodLink RX10 133 yX10_isGap : Cond) ∈ TT := tb4 96 (by decide +kernel) rfl
set_option maxRecDepth 20000 in
theorem t4_98 : (.instanceMethod yX10_isGap : Cond) ∈ TT := tb4 98 (by decide +kernel) rfl
set_option maxRecDepth 20000 in
theorem t4_99 : (.code yX10_isGap cX10_isGap 2 (some .boolean) : Cond) ∈ TT := tb4 99 rfl rfl
set_option maxRecDepth 20000 in
theorem t4_100 : (.methodLink RX10 81 yX10_gapMany : Cond) ∈ TT := tb4 100 (by decide +kernel) rfl
set_option maxRecDepth 20000 in
theorem t4_102 : (.instanceMethod yX10_gapMany : Cond) ∈ TT := tb4 102 (by decide +kernel) rfl
set_option maxRecDepth 20000 in
theorem t4_103 : (.code yX10_gapMany cX10_gapMany 1 (some .int) : Cond) ∈ TT := tb4 103 rfl rfl
set_option maxRecDepth 20000 in
theorem t4_104 : (.methodLink RL 47 yX10_look : Cond) ∈ TT := tb4 104 (by decide +kernel) rfl
set_option maxRecDepth 20000 in
theorem t4_105 : (.instanceMethod yX10_look : Cond) ∈ TT := tb4 105 (by decide +kernel) rfl
set_option maxRecDepth 20000 in
theorem t4_106 : (.selects RX10 yX10_look yX10_look : Cond) ∈ TT := tb4 106 (by decide +kernel) rfl
set_option maxRecDepth 20000 in
theorem t4_107 : (.code yX10_look cX10_look 5 (some .int) : Cond) ∈ TT := tb4 107 rfl rfl
set_option maxRecDepth 20000 in
theorem t4_108 : (.constantLong RX10 113 27 : Cond) ∈ TT := tb4 108 (by decide +kernel) rfl
set_option maxRecDepth 20000 in
theorem t4_109 : (.methodLink RX10 119 yX10_letterAt : Cond) ∈ TT := tb4 109 (by decide +kernel) rfl
set_option maxRecDepth 20000 in
theorem t4_111 : (.instanceMethod yX10_letterAt : Cond) ∈ TT := tb4 111 (by decide +kernel) rfl
set_option maxRecDepth 20000 in
theorem t4_112 : (.code yX10_letterAt cX10_letterAt 6 (some .int) : Cond) ∈ TT := tb4 112 rfl rfl
set_option maxRecDepth 20000 in
theorem t4_113 : (.methodLink RL 51 yX10_spread : Cond) ∈ TT := tb4 113 (by decide +kernel) rfl
set_option maxRecDepth 20000 in
theorem t4_114 : (.instanceMethod yX10_spread : Cond) ∈ TT := tb4 114 (by decide +kernel) rfl
set_option maxRecDepth 20000 in
theorem t4_115 : (.selects RX10 yX10_spread yX10_spread : Cond) ∈ TT := tb4 115 (by decide +kernel) rfl
set_option maxRecDepth 20000 in
theorem t4_116 : (.code yX10_spread cX10_spread 2 (some .int) : Cond) ∈ TT := tb4 116 rfl rfl
set_option maxRecDepth 20000 in
theorem t4_117 : (.methodLink RX10 142 yX10_canSpread : Cond) ∈ TT := tb4 117 (by decide +kernel) rfl
set_option maxRecDepth 20000 in
theorem t4_119 : (.instanceMethod yX10_canSpread : Cond) ∈ TT := tb4 119 (by decide +kernel) rfl
set_option maxRecDepth 20000 in
theorem t4_120 : (.code yX10_canSpread cX10_canSpread 3 (some .boolean) : Cond) ∈ TT := tb4 120 rfl rfl
set_option maxRecDepth 20000 in
theorem t4_121 : (.methodLink RX10 139 yX10_isFree : Cond) ∈ TT := tb4 121 (by decide +kernel) rfl
set_option maxRecDepth 20000 in
theorem t4_123 : (.instanceMethod yX10_isFree : Cond) ∈ TT := tb4 123 (by decide +kernel) rfl
set_option maxRecDepth 20000 in
theorem t4_124 : (.code yX10_isFree cX10_isFree 2 (some .boolean) : Cond) ∈ TT := tb4 124 rfl rfl
set_option maxRecDepth 20000 in
theorem t4_125 : (.methodLink RX10 145 yX10_keepAct : Cond) ∈ TT := tb4 125 (by decide +kernel) rfl
set_option maxRecDepth 20000 in
theorem t4_127 : (.instanceMethod yX10_keepAct : Cond) ∈ TT := tb4 127 (by decide +kernel) rfl
set_option maxRecDepth 20000 in
theorem t4_128 : (.code yX10_keepAct cX10_keepAct 2 none : Cond) ∈ TT := tb4 128 rfl rfl
set_option maxRecDepth 20000 in
theorem t4_129 : (.methodLink RL 55 yX10_fold : Cond) ∈ TT := tb4 129 (by decide +kernel) rfl
set_option maxRecDepth 20000 in
theorem t4_130 : (.instanceMethod yX10_fold : Cond) ∈ TT := tb4 130 (by decide +kernel) rfl
set_option maxRecDepth 20000 in
theorem t4_131 : (.selects RX10 yX10_fold yX10_fold : Cond) ∈ TT := tb4 131 (by decide +kernel) rfl
set_option maxRecDepth 20000 in
theorem t4_132 : (.code yX10_fold cX10_fold 2 (some .int) : Cond) ∈ TT := tb4 132 rfl rfl
set_option maxRecDepth 20000 in
theorem t4_133 : (.methodLink RX10 148 yX10_canFold : Cond) ∈ TT := tb4 133 (by decide +kernel) rfl
set_option maxRecDepth 20000 in
theorem t4_135 : (.instanceMethod yX10_canFold : Cond) ∈ TT := tb4 135 (by decide +kernel) rfl
set_option maxRecDepth 20000 in
theorem t4_136 : (.code yX10_canFold cX10_canFold 3 (some .boolean) : Cond) ∈ TT := tb4 136 rfl rfl
set_option maxRecDepth 20000 in
theorem t4_137 : (.methodLink RL 59 yX10_fling : Cond) ∈ TT := tb4 137 (by decide +kernel) rfl
set_option maxRecDepth 20000 in
theorem t4_138 : (.instanceMethod yX10_fling : Cond) ∈ TT := tb4 138 (by decide +kernel) rfl
set_option maxRecDepth 20000 in
theorem t4_139 : (.selects RX10 yX10_fling yX10_fling : Cond) ∈ TT := tb4 139 (by decide +kernel) rfl
set_option maxRecDepth 20000 in
theorem t4_140 : (.code yX10_fling cX10_fling 1 (some .int) : Cond) ∈ TT := tb4 140 rfl rfl
set_option maxRecDepth 20000 in
theorem t4_141 : (.methodLink RX10 151 yX10_flingOn : Cond) ∈ TT := tb4 141 (by decide +kernel) rfl
set_option maxRecDepth 20000 in
theorem t4_143 : (.instanceMethod yX10_flingOn : Cond) ∈ TT := tb4 143 (by decide +kernel) rfl
set_option maxRecDepth 20000 in
theorem t4_144 : (.code yX10_flingOn cX10_flingOn 5 (some .int) : Cond) ∈ TT := tb4 144 rfl rfl
set_option maxRecDepth 20000 in
theorem t4_145 : (.methodLink RL 63 yX10_snap : Cond) ∈ TT := tb4 145 (by decide +kernel) rfl
set_option maxRecDepth 20000 in
theorem t4_146 : (.instanceMethod yX10_snap : Cond) ∈ TT := tb4 146 (by decide +kernel) rfl
set_option maxRecDepth 20000 in
theorem t4_147 : (.selects RX10 yX10_snap yX10_snap : Cond) ∈ TT := tb4 147 (by decide +kernel) rfl
set_option maxRecDepth 20000 in
theorem t4_148 : (.code yX10_snap cX10_snap 2 (some .int) : Cond) ∈ TT := tb4 148 rfl rfl
set_option maxRecDepth 20000 in
theorem t4_149 : (.methodLink RX10 154 yX10_gapsOf : Cond) ∈ TT := tb4 149 (by decide +kernel) rfl
set_option maxRecDepth 20000 in
theorem t4_151 : (.instanceMethod yX10_gapsOf : Cond) ∈ TT := tb4 151 (by decide +kernel) rfl
set_option maxRecDepth 20000 in
theorem t4_152 : (.code yX10_gapsOf cX10_gapsOf 4 (some .int) : Cond) ∈ TT := tb4 152 rfl rfl
set_option maxRecDepth 20000 in
theorem t4_153 : (.methodLink RX10 157 yX10_snapOn : Cond) ∈ TT := tb4 153 (by decide +kernel) rfl
set_option maxRecDepth 20000 in
theorem t4_155 : (.instanceMethod yX10_snapOn : Cond) ∈ TT := tb4 155 (by decide +kernel) rfl
set_option maxRecDepth 20000 in
theorem t4_156 : (.code yX10_snapOn cX10_snapOn 3 none : Cond) ∈ TT := tb4 156 rfl rfl
set_option maxRecDepth 20000 in
theorem t4_157 : (.methodLink RL 67 yX10_undo : Cond) ∈ TT := tb4 157 (by decide +kernel) rfl
set_option maxRecDepth 20000 in
theorem t4_158 : (.instanceMethod yX10_undo : Cond) ∈ TT := tb4 158 (by decide +kernel) rfl
set_option maxRecDepth 20000 in
theorem t4_159 : (.selects RX10 yX10_undo yX10_undo : Cond) ∈ TT := tb4 159 (by decide +kernel) rfl
set_option maxRecDepth 20000 in
theorem t4_160 : (.code yX10_undo cX10_undo 2 (some .int) : Cond) ∈ TT := tb4 160 rfl rfl
set_option maxRecDepth 20000 in
theorem t4_161 : (.methodLink RL 71 yX10_reads : Cond) ∈ TT := tb4 161 (by decide +kernel) rfl
set_option maxRecDepth 20000 in
theorem t4_162 : (.instanceMethod yX10_reads : Cond) ∈ TT := tb4 162 (by decide +kernel) rfl
set_option maxRecDepth 20000 in
theorem t4_163 : (.selects RX10 yX10_reads yX10_reads : Cond) ∈ TT := tb4 163 (by decide +kernel) rfl
set_option maxRecDepth 20000 in
theorem t4_164 : (.code yX10_reads cX10_reads 2 (some .int) : Cond) ∈ TT := tb4 164 rfl rfl
set_option maxRecDepth 20000 in
theorem t4_165 : (.methodLink RX10 161 yX10_readsOn : Cond) ∈ TT := tb4 165 (by decide +kernel) rfl
set_option maxRecDepth 20000 in
theorem t4_167 : (.instanceMethod yX10_readsOn : Cond) ∈ TT := tb4 167 (by decide +kernel) rfl
set_option maxRecDepth 20000 in
theorem t4_168 : (.code yX10_readsOn cX10_readsOn 6 (some .int) : Cond) ∈ TT := tb4 168 rfl rfl
set_option maxRecDepth 20000 in
theorem t4_169 : (.methodLink RX10 122 yX10_isReadAt : Cond) ∈ TT := tb4 169 (by decide +kernel) rfl
set_option maxRecDepth 20000 in
theorem t4_171 : (.instanceMethod yX10_isReadAt : Cond) ∈ TT := tb4 171 (by decide +kernel) rfl
set_option maxRecDepth 20000 in
theorem t4_172 : (.code yX10_isReadAt cX10_isReadAt 7 (some .boolean) : Cond) ∈ TT := tb4 172 rfl rfl
set_option maxRecDepth 20000 in
theorem t4_173 : (.methodLink RL 75 yX10_open : Cond) ∈ TT := tb4 173 (by decide +kernel) rfl
set_option maxRecDepth 20000 in
theorem t4_174 : (.instanceMethod yX10_open : Cond) ∈ TT := tb4 174 (by decide +kernel) rfl
set_option maxRecDepth 20000 in
theorem t4_175 : (.selects RX10 yX10_open yX10_open : Cond) ∈ TT := tb4 175 (by decide +kernel) rfl
set_option maxRecDepth 20000 in
theorem t4_176 : (.code yX10_open cX10_open 8 (some .int) : Cond) ∈ TT := tb4 176 rfl rfl
set_option maxRecDepth 20000 in
theorem t4_177 : (.methodLink RX10 164 yX10_waysMany : Cond) ∈ TT := tb4 177 (by decide +kernel) rfl
set_option maxRecDepth 20000 in
theorem t4_179 : (.instanceMethod yX10_waysMany : Cond) ∈ TT := tb4 179 (by decide +kernel) rfl
set_option maxRecDepth 20000 in
theorem t4_180 : (.code yX10_waysMany cX10_waysMany 3 (some .int) : Cond) ∈ TT := tb4 180 rfl rfl
set_option maxRecDepth 20000 in
theorem t4_181 : (.methodLink RX10 167 yX10_layWay : Cond) ∈ TT := tb4 181 (by decide +kernel) rfl
set_option maxRecDepth 20000 in
theorem t4_183 : (.instanceMethod yX10_layWay : Cond) ∈ TT := tb4 183 (by decide +kernel) rfl
set_option maxRecDepth 20000 in
theorem t4_184 : (.code yX10_layWay cX10_layWay 5 (some .boolean) : Cond) ∈ TT := tb4 184 rfl rfl
set_option maxRecDepth 20000 in
theorem t4_185 : (.methodLink RX10 170 yX10_farOf : Cond) ∈ TT := tb4 185 (by decide +kernel) rfl
set_option maxRecDepth 20000 in
theorem t4_187 : (.instanceMethod yX10_farOf : Cond) ∈ TT := tb4 187 (by decide +kernel) rfl
set_option maxRecDepth 20000 in
theorem t4_188 : (.code yX10_farOf cX10_farOf 4 (some .int) : Cond) ∈ TT := tb4 188 rfl rfl
set_option maxRecDepth 20000 in
theorem t4_189 : (.methodLink RX10 173 yX10_figuresOf : Cond) ∈ TT := tb4 189 (by decide +kernel) rfl
set_option maxRecDepth 20000 in
theorem t4_191 : (.instanceMethod yX10_figuresOf : Cond) ∈ TT := tb4 191 (by decide +kernel) rfl
set_option maxRecDepth 20000 in
theorem t4_192 : (.code yX10_figuresOf cX10_figuresOf 4 (some .int) : Cond) ∈ TT := tb4 192 rfl rfl
set_option maxRecDepth 20000 in
theorem t4_193 : (.methodLink RL 79 yX10_most : Cond) ∈ TT := tb4 193 (by decide +kernel) rfl
set_option maxRecDepth 20000 in
theorem t4_194 : (.instanceMethod yX10_most : Cond) ∈ TT := tb4 194 (by decide +kernel) rfl
set_option maxRecDepth 20000 in
theorem t4_195 : (.selects RX10 yX10_most yX10_most : Cond) ∈ TT := tb4 195 (by decide +kernel) rfl
set_option maxRecDepth 20000 in
theorem t4_196 : (.code yX10_most cX10_most 7 (some .int) : Cond) ∈ TT := tb4 196 rfl rfl
set_option maxRecDepth 20000 in
theorem t4_197 : (.methodLink RX10 176 yX10_timesSeen : Cond) ∈ TT := tb4 197 (by decide +kernel) rfl
set_option maxRecDepth 20000 in
theorem t4_199 : (.instanceMethod yX10_timesSeen : Cond) ∈ TT := tb4 199 (by decide +kernel) rfl
set_option maxRecDepth 20000 in
theorem t4_200 : (.code yX10_timesSeen cX10_timesSeen 4 (some .int) : Cond) ∈ TT := tb4 200 rfl rfl
set_option maxRecDepth 20000 in
theorem t4_201 : (.methodLink RL 83 yX10_judge : Cond) ∈ TT := tb4 201 (by decide +kernel) rfl
set_option maxRecDepth 20000 in
theorem t4_202 : (.instanceMethod yX10_judge : Cond) ∈ TT := tb4 202 (by decide +kernel) rfl
set_option maxRecDepth 20000 in
theorem t4_203 : (.selects RX10 yX10_judge yX10_judge : Cond) ∈ TT := tb4 203 (by decide +kernel) rfl
set_option maxRecDepth 20000 in
theorem t4_204 : (.code yX10_judge cX10_judge 6 (some .int) : Cond) ∈ TT := tb4 204 rfl rfl
set_option maxRecDepth 20000 in
theorem t4_205 : (.constantLong RX10 184 4 : Cond) ∈ TT := tb4 205 (by decide +kernel) rfl
set_option maxRecDepth 20000 in
theorem t4_206 : (.methodLink RX10 186 yX10_thousandTo : Cond) ∈ TT := tb4 206 (by decide +kernel) rfl
set_option maxRecDepth 20000 in
theorem t4_207 : (.static yX10_thousandTo : Cond) ∈ TT := tb4 207 (by decide +kernel) rfl
set_option maxRecDepth 20000 in
theorem t4_208 : (.code yX10_thousandTo cX10_thousandTo 4 (some .long) : Cond) ∈ TT := tb4 208 rfl rfl
set_option maxRecDepth 20000 in
theorem t4_209 : (.constantLong RX10 182 1000 : Cond) ∈ TT := tb4 209 (by decide +kernel) rfl
set_option maxRecDepth 20000 in
theorem t4_210 : (.methodLink RX10 189 yX10_layTrial : Cond) ∈ TT := tb4 210 (by decide +kernel) rfl
set_option maxRecDepth 20000 in
theorem t4_212 : (.instanceMethod yX10_layTrial : Cond) ∈ TT := tb4 212 (by decide +kernel) rfl
set_option maxRecDepth 20000 in
theorem t4_213 : (.code yX10_layTrial cX10_layTrial 2 none : Cond) ∈ TT := tb4 213 rfl rfl
set_option maxRecDepth 20000 in
theorem t4_214 : (.methodLink RX10 192 yX10_tryThing : Cond) ∈ TT := tb4 214 (by decide +kernel) rfl
set_option maxRecDepth 20000 in
theorem t4_216 : (.instanceMethod yX10_tryThing : Cond) ∈ TT := tb4 216 (by decide +kernel) rfl
set_option maxRecDepth 20000 in
theorem t4_217 : (.code yX10_tryThing cX10_tryThing 6 (some .boolean) : Cond) ∈ TT := tb4 217 rfl rfl
set_option maxRecDepth 20000 in
theorem t4_218 : (.methodLink RX10 179 yX10_wide : Cond) ∈ TT := tb4 218 (by decide +kernel) rfl
set_option maxRecDepth 20000 in
theorem t4_220 : (.instanceMethod yX10_wide : Cond) ∈ TT := tb4 220 (by decide +kernel) rfl
set_option maxRecDepth 20000 in
theorem t4_221 : (.code yX10_wide cX10_wide 4 (some .int) : Cond) ∈ TT := tb4 221 rfl rfl
set_option maxRecDepth 20000 in
theorem t4_222 : (.methodLink RL 87 yX10_spy : Cond) ∈ TT := tb4 222 (by decide +kernel) rfl
set_option maxRecDepth 20000 in
theorem t4_223 : (.instanceMethod yX10_spy : Cond) ∈ TT := tb4 223 (by decide +kernel) rfl
set_option maxRecDepth 20000 in
theorem t4_224 : (.selects RX10 yX10_spy yX10_spy : Cond) ∈ TT := tb4 224 (by decide +kernel) rfl
set_option maxRecDepth 20000 in
theorem t4_225 : (.code yX10_spy cX10_spy 4 (some .int) : Cond) ∈ TT := tb4 225 rfl rfl
set_option maxRecDepth 20000 in
theorem t4_226 : (.methodLink RL 91 yX10_unspy : Cond) ∈ TT := tb4 226 (by decide +kernel) rfl
set_option maxRecDepth 20000 in
theorem t4_227 : (.instanceMethod yX10_unspy : Cond) ∈ TT := tb4 227 (by decide +kernel) rfl
set_option maxRecDepth 20000 in
theorem t4_228 : (.selects RX10 yX10_unspy yX10_unspy : Cond) ∈ TT := tb4 228 (by decide +kernel) rfl
set_option maxRecDepth 20000 in
theorem t4_229 : (.code yX10_unspy cX10_unspy 2 (some .int) : Cond) ∈ TT := tb4 229 rfl rfl
set_option maxRecDepth 20000 in
theorem t4_230 : (.methodLink RL 95 yX10_gaps : Cond) ∈ TT := tb4 230 (by decide +kernel) rfl
set_option maxRecDepth 20000 in
theorem t4_231 : (.instanceMethod yX10_gaps : Cond) ∈ TT := tb4 231 (by decide +kernel) rfl
set_option maxRecDepth 20000 in
theorem t4_232 : (.selects RX10 yX10_gaps yX10_gaps : Cond) ∈ TT := tb4 232 (by decide +kernel) rfl
set_option maxRecDepth 20000 in
theorem t4_233 : (.code yX10_gaps cX10_gaps 5 (some .int) : Cond) ∈ TT := tb4 233 rfl rfl
set_option maxRecDepth 20000 in
theorem t4_234 : (.methodLink RX10 199 yX10_mayBe : Cond) ∈ TT := tb4 234 (by decide +kernel) rfl
set_option maxRecDepth 20000 in
theorem t4_236 : (.instanceMethod yX10_mayBe : Cond) ∈ TT := tb4 236 (by decide +kernel) rfl
set_option maxRecDepth 20000 in
theorem t4_237 : (.code yX10_mayBe cX10_mayBe 3 (some .boolean) : Cond) ∈ TT := tb4 237 rfl rfl
set_option maxRecDepth 20000 in
theorem t4_238 : (.methodLink RL 100 yX10_share : Cond) ∈ TT := tb4 238 (by decide +kernel) rfl
set_option maxRecDepth 20000 in
theorem t4_239 : (.instanceMethod yX10_share : Cond) ∈ TT := tb4 239 (by decide +kernel) rfl
set_option maxRecDepth 20000 in
theorem t5_0 : (.selects RX10 yX10_share yX10_share : Cond) ∈ TT := tb5 0 (by decide +kernel) rfl
set_option maxRecDepth 20000 in
theorem t5_1 : (.code yX10_share cX10_share 6 (some .int) : Cond) ∈ TT := tb5 1 rfl rfl
set_option maxRecDepth 20000 in
theorem t5_2 : (.methodLink RX10 203 yX10_ones : Cond) ∈ TT := tb5 2 (by decide +kernel) rfl
set_option maxRecDepth 20000 in
theorem t5_3 : (.static yX10_ones : Cond) ∈ TT := tb5 3 (by decide +kernel) rfl
set_option maxRecDepth 20000 in
theorem t5_4 : (.code yX10_ones cX10_ones 3 (some .int) : Cond) ∈ TT := tb5 4 rfl rfl
set_option maxRecDepth 20000 in
theorem t5_5 : (.methodLink RX10 206 yX10_factorial : Cond) ∈ TT := tb5 5 (by decide +kernel) rfl
set_option maxRecDepth 20000 in
theorem t5_6 : (.static yX10_factorial : Cond) ∈ TT := tb5 6 (by decide +kernel) rfl
set_option maxRecDepth 20000 in
theorem t5_7 : (.code yX10_factorial cX10_factorial 3 (some .int) : Cond) ∈ TT := tb5 7 rfl rfl
set_option maxRecDepth 20000 in
theorem t5_8 : (.methodLink RX10 209 yX10_placesSeen : Cond) ∈ TT := tb5 8 (by decide +kernel) rfl
set_option maxRecDepth 20000 in
theorem t5_10 : (.instanceMethod yX10_placesSeen : Cond) ∈ TT := tb5 10 (by decide +kernel) rfl
set_option maxRecDepth 20000 in
theorem t5_11 : (.code yX10_placesSeen cX10_placesSeen 5 (some .int) : Cond) ∈ TT := tb5 11 rfl rfl
set_option maxRecDepth 20000 in
theorem t5_12 : (.methodLink RX10 212 yX10_common : Cond) ∈ TT := tb5 12 (by decide +kernel) rfl
set_option maxRecDepth 20000 in
theorem t5_13 : (.static yX10_common : Cond) ∈ TT := tb5 13 (by decide +kernel) rfl
set_option maxRecDepth 20000 in
theorem t5_14 : (.code yX10_common cX10_common 5 (some .int) : Cond) ∈ TT := tb5 14 rfl rfl
set_option maxRecDepth 20000 in
theorem t5_15 : (.methodLink RL 104 yX10_rests : Cond) ∈ TT := tb5 15 (by decide +kernel) rfl
set_option maxRecDepth 20000 in
theorem t5_16 : (.instanceMethod yX10_rests : Cond) ∈ TT := tb5 16 (by decide +kernel) rfl
set_option maxRecDepth 20000 in
theorem t5_17 : (.selects RX10 yX10_rests yX10_rests : Cond) ∈ TT := tb5 17 (by decide +kernel) rfl
set_option maxRecDepth 20000 in
theorem t5_18 : (.code yX10_rests cX10_rests 7 (some .int) : Cond) ∈ TT := tb5 18 rfl rfl
set_option maxRecDepth 20000 in
theorem t5_19 : (.methodLink RX10 218 yX10_isRest : Cond) ∈ TT := tb5 19 (by decide +kernel) rfl
set_option maxRecDepth 20000 in
theorem t5_21 : (.instanceMethod yX10_isRest : Cond) ∈ TT := tb5 21 (by decide +kernel) rfl
set_option maxRecDepth 20000 in
theorem t5_22 : (.code yX10_isRest cX10_isRest 5 (some .boolean) : Cond) ∈ TT := tb5 22 rfl rfl
set_option maxRecDepth 20000 in
theorem t5_23 : (.methodLink RX10 215 yX10_gain : Cond) ∈ TT := tb5 23 (by decide +kernel) rfl
set_option maxRecDepth 20000 in
theorem t5_25 : (.instanceMethod yX10_gain : Cond) ∈ TT := tb5 25 (by decide +kernel) rfl
set_option maxRecDepth 20000 in
theorem t5_26 : (.code yX10_gain cX10_gain 5 (some .int) : Cond) ∈ TT := tb5 26 rfl rfl
set_option maxRecDepth 20000 in
theorem t5_27 : (.methodLink RL 109 yX10_drops : Cond) ∈ TT := tb5 27 (by decide +kernel) rfl
set_option maxRecDepth 20000 in
theorem t5_28 : (.instanceMethod yX10_drops : Cond) ∈ TT := tb5 28 (by decide +kernel) rfl
set_option maxRecDepth 20000 in
theorem t5_29 : (.selects RX10 yX10_drops yX10_drops : Cond) ∈ TT := tb5 29 (by decide +kernel) rfl
set_option maxRecDepth 20000 in
theorem t5_30 : (.code yX10_drops cX10_drops 9 (some .int) : Cond) ∈ TT := tb5 30 rfl rfl
set_option maxRecDepth 20000 in
theorem t5_31 : (.constantLong RX10 221 10 : Cond) ∈ TT := tb5 31 (by decide +kernel) rfl
set_option maxRecDepth 20000 in
theorem t5_32 : (.methodLink RL 114 yX10_seed : Cond) ∈ TT := tb5 32 (by decide +kernel) rfl
set_option maxRecDepth 20000 in
theorem t5_33 : (.instanceMethod yX10_seed : Cond) ∈ TT := tb5 33 (by decide +kernel) rfl
set_option maxRecDepth 20000 in
theorem t5_34 : (.selects RX10 yX10_seed yX10_seed : Cond) ∈ TT := tb5 34 (by decide +kernel) rfl
set_option maxRecDepth 20000 in
theorem t5_35 : (.code yX10_seed cX10_seed 5 (some .long) : Cond) ∈ TT := tb5 35 rfl rfl
set_option maxRecDepth 20000 in
theorem t5_36 : (.methodLink RL 118 yX10_years : Cond) ∈ TT := tb5 36 (by decide +kernel) rfl
set_option maxRecDepth 20000 in
theorem t5_37 : (.instanceMethod yX10_years : Cond) ∈ TT := tb5 37 (by decide +kernel) rfl
set_option maxRecDepth 20000 in
theorem t5_38 : (.selects RX10 yX10_years yX10_years : Cond) ∈ TT := tb5 38 (by decide +kernel) rfl
set_option maxRecDepth 20000 in
theorem t5_39 : (.code yX10_years cX10_years 5 (some .int) : Cond) ∈ TT := tb5 39 rfl rfl
set_option maxRecDepth 20000 in
theorem t5_40 : (.constantLong RX10 227 30 : Cond) ∈ TT := tb5 40 (by decide +kernel) rfl
set_option maxRecDepth 20000 in
theorem t5_41 : (.constantLong RX10 229 6364136223846793005 : Cond) ∈ TT := tb5 41 (by decide +kernel) rfl
set_option maxRecDepth 20000 in
theorem t5_42 : (.constantLong RX10 231 1442695040888963407 : Cond) ∈ TT := tb5 42 (by decide +kernel) rfl
set_option maxRecDepth 20000 in
theorem t5_43 : (.constantLong RX10 233 16 : Cond) ∈ TT := tb5 43 (by decide +kernel) rfl
set_option maxRecDepth 20000 in
theorem t5_44 : (.methodLink RL 122 yX10_keep : Cond) ∈ TT := tb5 44 (by decide +kernel) rfl
set_option maxRecDepth 20000 in
theorem t5_45 : (.instanceMethod yX10_keep : Cond) ∈ TT := tb5 45 (by decide +kernel) rfl
set_option maxRecDepth 20000 in
theorem t5_46 : (.selects RX10 yX10_keep yX10_keep : Cond) ∈ TT := tb5 46 (by decide +kernel) rfl
set_option maxRecDepth 20000 in
theorem t5_47 : (.code yX10_keep cX10_keep 3 (some .int) : Cond) ∈ TT := tb5 47 rfl rfl
set_option maxRecDepth 20000 in
theorem t5_48 : (.methodLink RL 126 yX10_again : Cond) ∈ TT := tb5 48 (by decide +kernel) rfl
set_option maxRecDepth 20000 in
theorem t5_49 : (.instanceMethod yX10_again : Cond) ∈ TT := tb5 49 (by decide +kernel) rfl
set_option maxRecDepth 20000 in
theorem t5_50 : (.selects RX10 yX10_again yX10_again : Cond) ∈ TT := tb5 50 (by decide +kernel) rfl
set_option maxRecDepth 20000 in
theorem t5_51 : (.code yX10_again cX10_again 3 (some .int) : Cond) ∈ TT := tb5 51 rfl rfl
set_option maxRecDepth 20000 in
theorem t5_52 : (.methodLink RL 130 yX10_count : Cond) ∈ TT := tb5 52 (by decide +kernel) rfl
set_option maxRecDepth 20000 in
theorem t5_53 : (.instanceMethod yX10_count : Cond) ∈ TT := tb5 53 (by decide +kernel) rfl
set_option maxRecDepth 20000 in
theorem t5_54 : (.selects RX10 yX10_count yX10_count : Cond) ∈ TT := tb5 54 (by decide +kernel) rfl
set_option maxRecDepth 20000 in
theorem t5_55 : (.code yX10_count cX10_count 2 (some .int) : Cond) ∈ TT := tb5 55 rfl rfl
set_option maxRecDepth 20000 in
theorem t5_56 : (.constantLong RL 31 4294967295 : Cond) ∈ TT := tb5 56 (by decide +kernel) rfl
set_option maxRecDepth 20000 in
theorem t0_0 : (.selects RX6 yX6_lay yX6_lay : Cond) ∈ TT := tb0 0 (by decide +kernel) rfl
set_option maxRecDepth 20000 in
theorem t0_1 : (.selects RX6 yX6_liesUpper yX6_liesUpper : Cond) ∈ TT := tb0 1 (by decide +kernel) rfl
set_option maxRecDepth 20000 in
theorem t0_2 : (.selects RX6 yX6_markAt yX6_markAt : Cond) ∈ TT := tb0 2 (by decide +kernel) rfl
set_option maxRecDepth 20000 in
theorem t0_3 : (.selects RX0 yX0_forgetFirst yX0_forgetFirst : Cond) ∈ TT := tb0 3 (by decide +kernel) rfl
set_option maxRecDepth 20000 in
theorem t0_4 : (.selects RX8 yX8_isReadAt yX8_isReadAt : Cond) ∈ TT := tb0 4 (by decide +kernel) rfl
set_option maxRecDepth 20000 in
theorem t0_5 : (.selects RX9 yX9_comesTrue yX9_comesTrue : Cond) ∈ TT := tb0 5 (by decide +kernel) rfl
set_option maxRecDepth 20000 in
theorem t0_6 : (.selects RX9 yX9_shareOfPlace yX9_shareOfPlace : Cond) ∈ TT := tb0 6 (by decide +kernel) rfl
set_option maxRecDepth 20000 in
theorem t0_7 : (.selects RX9 yX9_weighPair yX9_weighPair : Cond) ∈ TT := tb0 7 (by decide +kernel) rfl
set_option maxRecDepth 20000 in
theorem t0_8 : (.selects RX9 yX9_weightOf yX9_weightOf : Cond) ∈ TT := tb0 8 (by decide +kernel) rfl
set_option maxRecDepth 20000 in
theorem t0_9 : (.selects RX9 yX9_passYear yX9_passYear : Cond) ∈ TT := tb0 9 (by decide +kernel) rfl
set_option maxRecDepth 20000 in
theorem t0_10 : (.selects RX10 yX10_readText yX10_readText : Cond) ∈ TT := tb0 10 (by decide +kernel) rfl
set_option maxRecDepth 20000 in
theorem t0_11 : (.selects RX10 yX10_isBlade yX10_isBlade : Cond) ∈ TT := tb0 11 (by decide +kernel) rfl
set_option maxRecDepth 20000 in
theorem t0_12 : (.selects RX10 yX10_beginOf yX10_beginOf : Cond) ∈ TT := tb0 12 (by decide +kernel) rfl
set_option maxRecDepth 20000 in
theorem t0_13 : (.selects RX10 yX10_wideOf yX10_wideOf : Cond) ∈ TT := tb0 13 (by decide +kernel) rfl
set_option maxRecDepth 20000 in
theorem t0_14 : (.selects RX10 yX10_cellsSeen yX10_cellsSeen : Cond) ∈ TT := tb0 14 (by decide +kernel) rfl
set_option maxRecDepth 20000 in
theorem t0_15 : (.selects RX10 yX10_bladeAt yX10_bladeAt : Cond) ∈ TT := tb0 15 (by decide +kernel) rfl
set_option maxRecDepth 20000 in
theorem t0_16 : (.selects RX10 yX10_cellAt yX10_cellAt : Cond) ∈ TT := tb0 16 (by decide +kernel) rfl
set_option maxRecDepth 20000 in
theorem t0_17 : (.selects RX10 yX10_isGap yX10_isGap : Cond) ∈ TT := tb0 17 (by decide +kernel) rfl
set_option maxRecDepth 20000 in
theorem t0_18 : (.selects RX10 yX10_gapMany yX10_gapMany : Cond) ∈ TT := tb0 18 (by decide +kernel) rfl
set_option maxRecDepth 20000 in
theorem t0_19 : (.selects RX10 yX10_letterAt yX10_letterAt : Cond) ∈ TT := tb0 19 (by decide +kernel) rfl
set_option maxRecDepth 20000 in
theorem t0_20 : (.selects RX10 yX10_canSpread yX10_canSpread : Cond) ∈ TT := tb0 20 (by decide +kernel) rfl
set_option maxRecDepth 20000 in
theorem t0_21 : (.selects RX10 yX10_isFree yX10_isFree : Cond) ∈ TT := tb0 21 (by decide +kernel) rfl
set_option maxRecDepth 20000 in
theorem t0_22 : (.selects RX10 yX10_keepAct yX10_keepAct : Cond) ∈ TT := tb0 22 (by decide +kernel) rfl
set_option maxRecDepth 20000 in
theorem t0_23 : (.selects RX10 yX10_canFold yX10_canFold : Cond) ∈ TT := tb0 23 (by decide +kernel) rfl
set_option maxRecDepth 20000 in
theorem t0_24 : (.selects RX10 yX10_flingOn yX10_flingOn : Cond) ∈ TT := tb0 24 (by decide +kernel) rfl
set_option maxRecDepth 20000 in
theorem t0_25 : (.selects RX10 yX10_gapsOf yX10_gapsOf : Cond) ∈ TT := tb0 25 (by decide +kernel) rfl
set_option maxRecDepth 20000 in
theorem t0_26 : (.selects RX10 yX10_snapOn yX10_snapOn : Cond) ∈ TT := tb0 26 (by decide +kernel) rfl
set_option maxRecDepth 20000 in
theorem t0_27 : (.selects RX10 yX10_readsOn yX10_readsOn : Cond) ∈ TT := tb0 27 (by decide +kernel) rfl
set_option maxRecDepth 20000 in
theorem t0_28 : (.selects RX10 yX10_isReadAt yX10_isReadAt : Cond) ∈ TT := tb0 28 (by decide +kernel) rfl
set_option maxRecDepth 20000 in
theorem t0_29 : (.selects RX10 yX10_waysMany yX10_waysMany : Cond) ∈ TT := tb0 29 (by decide +kernel) rfl
set_option maxRecDepth 20000 in
theorem t0_30 : (.selects RX10 yX10_layWay yX10_layWay : Cond) ∈ TT := tb0 30 (by decide +kernel) rfl
set_option maxRecDepth 20000 in
theorem t0_31 : (.selects RX10 yX10_farOf yX10_farOf : Cond) ∈ TT := tb0 31 (by decide +kernel) rfl
set_option maxRecDepth 20000 in
theorem t0_32 : (.selects RX10 yX10_figuresOf yX10_figuresOf : Cond) ∈ TT := tb0 32 (by decide +kernel) rfl
set_option maxRecDepth 20000 in
theorem t0_33 : (.selects RX10 yX10_timesSeen yX10_timesSeen : Cond) ∈ TT := tb0 33 (by decide +kernel) rfl
set_option maxRecDepth 20000 in
theorem t0_34 : (.selects RX10 yX10_layTrial yX10_layTrial : Cond) ∈ TT := tb0 34 (by decide +kernel) rfl
set_option maxRecDepth 20000 in
theorem t0_35 : (.selects RX10 yX10_tryThing yX10_tryThing : Cond) ∈ TT := tb0 35 (by decide +kernel) rfl
set_option maxRecDepth 20000 in
theorem t0_36 : (.selects RX10 yX10_wide yX10_wide : Cond) ∈ TT := tb0 36 (by decide +kernel) rfl
set_option maxRecDepth 20000 in
theorem t0_37 : (.selects RX10 yX10_mayBe yX10_mayBe : Cond) ∈ TT := tb0 37 (by decide +kernel) rfl
set_option maxRecDepth 20000 in
theorem t0_38 : (.selects RX10 yX10_placesSeen yX10_placesSeen : Cond) ∈ TT := tb0 38 (by decide +kernel) rfl
set_option maxRecDepth 20000 in
theorem t0_39 : (.selects RX10 yX10_isRest yX10_isRest : Cond) ∈ TT := tb0 39 (by decide +kernel) rfl
set_option maxRecDepth 20000 in
theorem t0_40 : (.selects RX10 yX10_gain yX10_gain : Cond) ∈ TT := tb0 40 (by decide +kernel) rfl
set_option maxRecDepth 20000 in
theorem inX0 : ∀ w ∈ u_ws RX0 TX0 2, w ∈ TT := List.forall_mem_cons.mpr ⟨t1_131, List.forall_mem_cons.mpr ⟨t1_133, fun _ h => absurd h List.not_mem_nil⟩⟩
set_option maxRecDepth 20000 in
theorem inX1 : ∀ w ∈ u_ws RX1 TX1 3, w ∈ TT := List.forall_mem_cons.mpr ⟨t1_46, List.forall_mem_cons.mpr ⟨t1_48, List.forall_mem_cons.mpr ⟨t1_50, fun _ h => absurd h List.not_mem_nil⟩⟩⟩
set_option maxRecDepth 20000 in
theorem inX2 : ∀ w ∈ u_ws RX2 TX2 2, w ∈ TT := List.forall_mem_cons.mpr ⟨t1_61, List.forall_mem_cons.mpr ⟨t1_63, fun _ h => absurd h List.not_mem_nil⟩⟩
set_option maxRecDepth 20000 in
theorem inX3 : ∀ w ∈ u_ws RX3 TX3 2, w ∈ TT := List.forall_mem_cons.mpr ⟨t1_31, List.forall_mem_cons.mpr ⟨t1_33, fun _ h => absurd h List.not_mem_nil⟩⟩
set_option maxRecDepth 20000 in
theorem inX4 : ∀ w ∈ u_ws RX4 TX4 2, w ∈ TT := List.forall_mem_cons.mpr ⟨t1_145, List.forall_mem_cons.mpr ⟨t1_147, fun _ h => absurd h List.not_mem_nil⟩⟩
set_option maxRecDepth 20000 in
theorem inX5 : ∀ w ∈ u_ws RX5 TX5 4, w ∈ TT := List.forall_mem_cons.mpr ⟨t1_161, List.forall_mem_cons.mpr ⟨t1_163, List.forall_mem_cons.mpr ⟨t1_165, List.forall_mem_cons.mpr ⟨t1_167, fun _ h => absurd h List.not_mem_nil⟩⟩⟩⟩
set_option maxRecDepth 20000 in
theorem inX6 : ∀ w ∈ u_ws RX6 TX6 5, w ∈ TT := List.forall_mem_cons.mpr ⟨t1_82, List.forall_mem_cons.mpr ⟨t1_84, List.forall_mem_cons.mpr ⟨t1_86, List.forall_mem_cons.mpr ⟨t1_88, List.forall_mem_cons.mpr ⟨t1_90, fun _ h => absurd h List.not_mem_nil⟩⟩⟩⟩⟩
set_option maxRecDepth 20000 in
theorem inX7 : ∀ w ∈ u_ws RX7 TX7 3, w ∈ TT := List.forall_mem_cons.mpr ⟨t1_102, List.forall_mem_cons.mpr ⟨t1_104, List.forall_mem_cons.mpr ⟨t1_106, fun _ h => absurd h List.not_mem_nil⟩⟩⟩
set_option maxRecDepth 20000 in
theorem inX8 : ∀ w ∈ u_ws RX8 TX8 2, w ∈ TT := List.forall_mem_cons.mpr ⟨t1_117, List.forall_mem_cons.mpr ⟨t1_119, fun _ h => absurd h List.not_mem_nil⟩⟩
set_option maxRecDepth 20000 in
theorem inX9 : ∀ w ∈ u_ws RX9 TX9 14, w ∈ TT := List.forall_mem_cons.mpr ⟨t1_184, List.forall_mem_cons.mpr ⟨t1_186, List.forall_mem_cons.mpr ⟨t1_188, List.forall_mem_cons.mpr ⟨t1_190, List.forall_mem_cons.mpr ⟨t1_192, List.forall_mem_cons.mpr ⟨t1_194, List.forall_mem_cons.mpr ⟨t1_196, List.forall_mem_cons.mpr ⟨t1_198, List.forall_mem_cons.mpr ⟨t1_200, List.forall_mem_cons.mpr ⟨t1_202, List.forall_mem_cons.mpr ⟨t1_204, List.forall_mem_cons.mpr ⟨t1_206, List.forall_mem_cons.mpr ⟨t1_208, List.forall_mem_cons.mpr ⟨t1_210, fun _ h => absurd h List.not_mem_nil⟩⟩⟩⟩⟩⟩⟩⟩⟩⟩⟩⟩⟩⟩
set_option maxRecDepth 20000 in
theorem inX10 : ∀ w ∈ u_ws RX10 TX10 21, w ∈ TT := List.forall_mem_cons.mpr ⟨t3_224, List.forall_mem_cons.mpr ⟨t3_226, List.forall_mem_cons.mpr ⟨t3_228, List.forall_mem_cons.mpr ⟨t3_230, List.forall_mem_cons.mpr ⟨t3_232, List.forall_mem_cons.mpr ⟨t3_234, List.forall_mem_cons.mpr ⟨t3_236, List.forall_mem_cons.mpr ⟨t3_238, List.forall_mem_cons.mpr ⟨t4_0, List.forall_mem_cons.mpr ⟨t4_2, List.forall_mem_cons.mpr ⟨t4_4, List.forall_mem_cons.mpr ⟨t4_6, List.forall_mem_cons.mpr ⟨t4_8, List.forall_mem_cons.mpr ⟨t4_10, List.forall_mem_cons.mpr ⟨t4_12, List.forall_mem_cons.mpr ⟨t4_14, List.forall_mem_cons.mpr ⟨t4_16, List.forall_mem_cons.mpr ⟨t4_18, List.forall_mem_cons.mpr ⟨t4_20, List.forall_mem_cons.mpr ⟨t4_22, List.forall_mem_cons.mpr ⟨t4_24, fun _ h => absurd h List.not_mem_nil⟩⟩⟩⟩⟩⟩⟩⟩⟩⟩⟩⟩⟩⟩⟩⟩⟩⟩⟩⟩⟩
