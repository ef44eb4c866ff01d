theorem ml_L_13 : Cond.methodLink RL 13 yX11_status ∈ Tg := Tg_in3 132 (by decide +kernel) rfl
theorem yv_X11_status : YV yX11_status cX11_status 1 (some .int) 0 11 := ⟨Tg_in3 133 (by decide +kernel) rfl, Tg_in3 134 (by decide +kernel) rfl, Tg_in1 1 (by decide +kernel) rfl, Tg_in3 135 (by decide +kernel) rfl, ⟨by decide, by decide, by decide +kernel⟩, TX11, 17, rfl⟩
theorem ml_L_17 : Cond.methodLink RL 17 yX12_status ∈ Tg := Tg_in7 186 (by decide +kernel) rfl
theorem yv_X12_status : YV yX12_status cX12_status 1 (some .int) 0 12 := ⟨Tg_in7 187 (by decide +kernel) rfl, Tg_in7 188 (by decide +kernel) rfl, Tg_in1 13 (by decide +kernel) rfl, Tg_in7 189 (by decide +kernel) rfl, ⟨by decide, by decide, by decide +kernel⟩, TX12, 75, rfl⟩
theorem kI_6 : Int32.ofInt (6) = (nI 6) := by decide +kernel
theorem ml_L_18 : Cond.methodLink RL 18 yX11_feed ∈ Tg := Tg_in3 136 (by decide +kernel) rfl
theorem yv_X11_feed : YV yX11_feed cX11_feed 6 (some .int) 5 11 := ⟨Tg_in3 137 (by decide +kernel) rfl, Tg_in3 138 (by decide +kernel) rfl, Tg_in1 1 (by decide +kernel) rfl, Tg_in3 139 (by decide +kernel) rfl, ⟨by decide, by decide, by decide +kernel⟩, TX11, 17, rfl⟩
theorem ml_L_22 : Cond.methodLink RL 22 yX12_feed ∈ Tg := Tg_in7 190 (by decide +kernel) rfl
theorem yv_X12_feed : YV yX12_feed cX12_feed 6 (some .int) 5 12 := ⟨Tg_in7 191 (by decide +kernel) rfl, Tg_in7 192 (by decide +kernel) rfl, Tg_in1 13 (by decide +kernel) rfl, Tg_in7 193 (by decide +kernel) rfl, ⟨by decide, by decide, by decide +kernel⟩, TX12, 75, rfl⟩
theorem ml_L_23 : Cond.methodLink RL 23 yX11_grammar ∈ Tg := Tg_in3 144 (by decide +kernel) rfl
theorem yv_X11_grammar : YV yX11_grammar cX11_grammar 3 (some .int) 1 11 := ⟨Tg_in3 145 (by decide +kernel) rfl, Tg_in3 146 (by decide +kernel) rfl, Tg_in1 1 (by decide +kernel) rfl, Tg_in3 147 (by decide +kernel) rfl, ⟨by decide, by decide, by decide +kernel⟩, TX11, 17, rfl⟩
theorem ml_L_27 : Cond.methodLink RL 27 yX12_grammar ∈ Tg := Tg_in7 198 (by decide +kernel) rfl
theorem yv_X12_grammar : YV yX12_grammar cX12_grammar 4 (some .int) 1 12 := ⟨Tg_in7 199 (by decide +kernel) rfl, Tg_in7 200 (by decide +kernel) rfl, Tg_in1 13 (by decide +kernel) rfl, Tg_in7 201 (by decide +kernel) rfl, ⟨by decide, by decide, by decide +kernel⟩, TX12, 75, rfl⟩
theorem ml_L_28 : Cond.methodLink RL 28 yX11_fault ∈ Tg := Tg_in4 223 (by decide +kernel) rfl
theorem yv_X11_fault : YV yX11_fault cX11_fault 2 (some .int) 1 11 := ⟨Tg_in4 224 (by decide +kernel) rfl, Tg_in4 225 (by decide +kernel) rfl, Tg_in1 1 (by decide +kernel) rfl, Tg_in4 226 (by decide +kernel) rfl, ⟨by decide, by decide, by decide +kernel⟩, TX11, 17, rfl⟩
theorem ml_L_31 : Cond.methodLink RL 31 yX12_fault ∈ Tg := Tg_in8 124 (by decide +kernel) rfl
theorem yv_X12_fault : YV yX12_fault cX12_fault 2 (some .int) 1 12 := ⟨Tg_in8 125 (by decide +kernel) rfl, Tg_in8 126 (by decide +kernel) rfl, Tg_in1 13 (by decide +kernel) rfl, Tg_in8 127 (by decide +kernel) rfl, ⟨by decide, by decide, by decide +kernel⟩, TX12, 75, rfl⟩
theorem ml_L_32 : Cond.methodLink RL 32 yX11_many ∈ Tg := Tg_in4 227 (by decide +kernel) rfl
theorem yv_X11_many : YV yX11_many cX11_many 2 (some .int) 1 11 := ⟨Tg_in4 228 (by decide +kernel) rfl, Tg_in4 229 (by decide +kernel) rfl, Tg_in1 1 (by decide +kernel) rfl, Tg_in4 230 (by decide +kernel) rfl, ⟨by decide, by decide, by decide +kernel⟩, TX11, 17, rfl⟩
theorem ml_L_35 : Cond.methodLink RL 35 yX12_many ∈ Tg := Tg_in8 128 (by decide +kernel) rfl
theorem yv_X12_many : YV yX12_many cX12_many 2 (some .int) 1 12 := ⟨Tg_in8 129 (by decide +kernel) rfl, Tg_in8 130 (by decide +kernel) rfl, Tg_in1 13 (by decide +kernel) rfl, Tg_in8 131 (by decide +kernel) rfl, ⟨by decide, by decide, by decide +kernel⟩, TX12, 75, rfl⟩
theorem ml_L_36 : Cond.methodLink RL 36 yX11_symbol ∈ Tg := Tg_in5 1 (by decide +kernel) rfl
theorem yv_X11_symbol : YV yX11_symbol cX11_symbol 3 (some .int) 2 11 := ⟨Tg_in5 2 (by decide +kernel) rfl, Tg_in5 3 (by decide +kernel) rfl, Tg_in1 1 (by decide +kernel) rfl, Tg_in5 4 (by decide +kernel) rfl, ⟨by decide, by decide, by decide +kernel⟩, TX11, 17, rfl⟩
theorem ml_L_40 : Cond.methodLink RL 40 yX12_symbol ∈ Tg := Tg_in8 136 (by decide +kernel) rfl
theorem yv_X12_symbol : YV yX12_symbol cX12_symbol 5 (some .int) 2 12 := ⟨Tg_in8 137 (by decide +kernel) rfl, Tg_in8 138 (by decide +kernel) rfl, Tg_in1 13 (by decide +kernel) rfl, Tg_in8 139 (by decide +kernel) rfl, ⟨by decide, by decide, by decide +kernel⟩, TX12, 75, rfl⟩
theorem ml_L_41 : Cond.methodLink RL 41 yX11_production ∈ Tg := Tg_in5 14 (by decide +kernel) rfl
theorem yv_X11_production : YV yX11_production cX11_production 4 (some .int) 2 11 := ⟨Tg_in5 15 (by decide +kernel) rfl, Tg_in5 16 (by decide +kernel) rfl, Tg_in1 1 (by decide +kernel) rfl, Tg_in5 17 (by decide +kernel) rfl, ⟨by decide, by decide, by decide +kernel⟩, TX11, 17, rfl⟩
theorem ml_L_44 : Cond.methodLink RL 44 yX12_production ∈ Tg := Tg_in8 160 (by decide +kernel) rfl
theorem yv_X12_production : YV yX12_production cX12_production 5 (some .int) 2 12 := ⟨Tg_in8 161 (by decide +kernel) rfl, Tg_in8 162 (by decide +kernel) rfl, Tg_in1 13 (by decide +kernel) rfl, Tg_in8 163 (by decide +kernel) rfl, ⟨by decide, by decide, by decide +kernel⟩, TX12, 75, rfl⟩
theorem ml_L_45 : Cond.methodLink RL 45 yX11_hangs ∈ Tg := Tg_in5 28 (by decide +kernel) rfl
theorem yv_X11_hangs : YV yX11_hangs cX11_hangs 7 (some .int) 4 11 := ⟨Tg_in5 29 (by decide +kernel) rfl, Tg_in5 30 (by decide +kernel) rfl, Tg_in1 1 (by decide +kernel) rfl, Tg_in5 31 (by decide +kernel) rfl, ⟨by decide, by decide, by decide +kernel⟩, TX11, 17, rfl⟩
theorem ml_L_49 : Cond.methodLink RL 49 yX12_hangs ∈ Tg := Tg_in8 168 (by decide +kernel) rfl
theorem yv_X12_hangs : YV yX12_hangs cX12_hangs 5 (some .int) 4 12 := ⟨Tg_in8 169 (by decide +kernel) rfl, Tg_in8 170 (by decide +kernel) rfl, Tg_in1 13 (by decide +kernel) rfl, Tg_in8 171 (by decide +kernel) rfl, ⟨by decide, by decide, by decide +kernel⟩, TX12, 75, rfl⟩
theorem ml_L_50 : Cond.methodLink RL 50 yX11_induced ∈ Tg := Tg_in5 40 (by decide +kernel) rfl
theorem yv_X11_induced : YV yX11_induced cX11_induced 4 (some .int) 3 11 := ⟨Tg_in5 41 (by decide +kernel) rfl, Tg_in5 42 (by decide +kernel) rfl, Tg_in1 1 (by decide +kernel) rfl, Tg_in5 43 (by decide +kernel) rfl, ⟨by decide, by decide, by decide +kernel⟩, TX11, 17, rfl⟩
theorem ml_L_54 : Cond.methodLink RL 54 yX12_induced ∈ Tg := Tg_in8 192 (by decide +kernel) rfl
theorem yv_X12_induced : YV yX12_induced cX12_induced 4 (some .int) 3 12 := ⟨Tg_in8 193 (by decide +kernel) rfl, Tg_in8 194 (by decide +kernel) rfl, Tg_in1 13 (by decide +kernel) rfl, Tg_in8 195 (by decide +kernel) rfl, ⟨by decide, by decide, by decide +kernel⟩, TX12, 75, rfl⟩
theorem ml_L_55 : Cond.methodLink RL 55 yX11_circle ∈ Tg := Tg_in5 49 (by decide +kernel) rfl
theorem yv_X11_circle : YV yX11_circle cX11_circle 2 (some .int) 1 11 := ⟨Tg_in5 50 (by decide +kernel) rfl, Tg_in5 51 (by decide +kernel) rfl, Tg_in1 1 (by decide +kernel) rfl, Tg_in5 52 (by decide +kernel) rfl, ⟨by decide, by decide, by decide +kernel⟩, TX11, 17, rfl⟩
theorem ml_L_58 : Cond.methodLink RL 58 yX12_circle ∈ Tg := Tg_in8 200 (by decide +kernel) rfl
theorem yv_X12_circle : YV yX12_circle cX12_circle 3 (some .int) 1 12 := ⟨Tg_in8 201 (by decide +kernel) rfl, Tg_in8 202 (by decide +kernel) rfl, Tg_in1 13 (by decide +kernel) rfl, Tg_in8 203 (by decide +kernel) rfl, ⟨by decide, by decide, by decide +kernel⟩, TX12, 75, rfl⟩
theorem ml_L_59 : Cond.methodLink RL 59 yX11_visit ∈ Tg := Tg_in5 53 (by decide +kernel) rfl
theorem yv_X11_visit : YV yX11_visit cX11_visit 3 (some .int) 2 11 := ⟨Tg_in5 54 (by decide +kernel) rfl, Tg_in5 55 (by decide +kernel) rfl, Tg_in1 1 (by decide +kernel) rfl, Tg_in5 56 (by decide +kernel) rfl, ⟨by decide, by decide, by decide +kernel⟩, TX11, 17, rfl⟩
theorem ml_L_62 : Cond.methodLink RL 62 yX12_visit ∈ Tg := Tg_in8 217 (by decide +kernel) rfl
theorem yv_X12_visit : YV yX12_visit cX12_visit 3 (some .int) 2 12 := ⟨Tg_in8 218 (by decide +kernel) rfl, Tg_in8 219 (by decide +kernel) rfl, Tg_in1 13 (by decide +kernel) rfl, Tg_in8 220 (by decide +kernel) rfl, ⟨by decide, by decide, by decide +kernel⟩, TX12, 75, rfl⟩
theorem ml_L_63 : Cond.methodLink RL 63 yX11_ordered ∈ Tg := Tg_in5 57 (by decide +kernel) rfl
theorem yv_X11_ordered : YV yX11_ordered cX11_ordered 3 (some .int) 1 11 := ⟨Tg_in5 58 (by decide +kernel) rfl, Tg_in5 59 (by decide +kernel) rfl, Tg_in1 1 (by decide +kernel) rfl, Tg_in5 60 (by decide +kernel) rfl, ⟨by decide, by decide, by decide +kernel⟩, TX11, 17, rfl⟩
theorem ml_L_66 : Cond.methodLink RL 66 yX12_ordered ∈ Tg := Tg_in8 221 (by decide +kernel) rfl
theorem yv_X12_ordered : YV yX12_ordered cX12_ordered 3 (some .int) 1 12 := ⟨Tg_in8 222 (by decide +kernel) rfl, Tg_in8 223 (by decide +kernel) rfl, Tg_in1 13 (by decide +kernel) rfl, Tg_in8 224 (by decide +kernel) rfl, ⟨by decide, by decide, by decide +kernel⟩, TX12, 75, rfl⟩
theorem ml_L_67 : Cond.methodLink RL 67 yX11_plan ∈ Tg := Tg_in5 61 (by decide +kernel) rfl
theorem yv_X11_plan : YV yX11_plan cX11_plan 3 (some .int) 2 11 := ⟨Tg_in5 62 (by decide +kernel) rfl, Tg_in5 63 (by decide +kernel) rfl, Tg_in1 1 (by decide +kernel) rfl, Tg_in5 64 (by decide +kernel) rfl, ⟨by decide, by decide, by decide +kernel⟩, TX11, 17, rfl⟩
theorem ml_L_70 : Cond.methodLink RL 70 yX12_plan ∈ Tg := Tg_in8 229 (by decide +kernel) rfl
theorem yv_X12_plan : YV yX12_plan cX12_plan 3 (some .int) 2 12 := ⟨Tg_in8 230 (by decide +kernel) rfl, Tg_in8 231 (by decide +kernel) rfl, Tg_in1 13 (by decide +kernel) rfl, Tg_in8 232 (by decide +kernel) rfl, ⟨by decide, by decide, by decide +kernel⟩, TX12, 75, rfl⟩
theorem ml_L_71 : Cond.methodLink RL 71 yX11_real ∈ Tg := Tg_in5 69 (by decide +kernel) rfl
theorem yv_X11_real : YV yX11_real cX11_real 3 (some .int) 1 11 := ⟨Tg_in5 70 (by decide +kernel) rfl, Tg_in5 71 (by decide +kernel) rfl, Tg_in1 1 (by decide +kernel) rfl, Tg_in5 72 (by decide +kernel) rfl, ⟨by decide, by decide, by decide +kernel⟩, TX11, 17, rfl⟩
theorem ml_L_74 : Cond.methodLink RL 74 yX12_real ∈ Tg := Tg_in9 17 (by decide +kernel) rfl
theorem yv_X12_real : YV yX12_real cX12_real 4 (some .int) 1 12 := ⟨Tg_in9 18 (by decide +kernel) rfl, Tg_in9 19 (by decide +kernel) rfl, Tg_in1 13 (by decide +kernel) rfl, Tg_in9 20 (by decide +kernel) rfl, ⟨by decide, by decide, by decide +kernel⟩, TX12, 75, rfl⟩
theorem ml_L_75 : Cond.methodLink RL 75 yX11_shades ∈ Tg := Tg_in5 127 (by decide +kernel) rfl
theorem yv_X11_shades : YV yX11_shades cX11_shades 2 (some .int) 1 11 := ⟨Tg_in5 128 (by decide +kernel) rfl, Tg_in5 129 (by decide +kernel) rfl, Tg_in1 1 (by decide +kernel) rfl, Tg_in5 130 (by decide +kernel) rfl, ⟨by decide, by decide, by decide +kernel⟩, TX11, 17, rfl⟩
theorem ml_L_78 : Cond.methodLink RL 78 yX12_shades ∈ Tg := Tg_in9 41 (by decide +kernel) rfl
theorem yv_X12_shades : YV yX12_shades cX12_shades 2 (some .int) 1 12 := ⟨Tg_in9 42 (by decide +kernel) rfl, Tg_in9 43 (by decide +kernel) rfl, Tg_in1 13 (by decide +kernel) rfl, Tg_in9 44 (by decide +kernel) rfl, ⟨by decide, by decide, by decide +kernel⟩, TX12, 75, rfl⟩
theorem ml_L_79 : Cond.methodLink RL 79 yX11_tree ∈ Tg := Tg_in5 131 (by decide +kernel) rfl
theorem yv_X11_tree : YV yX11_tree cX11_tree 3 (some .int) 1 11 := ⟨Tg_in5 132 (by decide +kernel) rfl, Tg_in5 133 (by decide +kernel) rfl, Tg_in1 1 (by decide +kernel) rfl, Tg_in5 134 (by decide +kernel) rfl, ⟨by decide, by decide, by decide +kernel⟩, TX11, 17, rfl⟩
theorem ml_L_82 : Cond.methodLink RL 82 yX12_tree ∈ Tg := Tg_in9 45 (by decide +kernel) rfl
theorem yv_X12_tree : YV yX12_tree cX12_tree 3 (some .int) 1 12 := ⟨Tg_in9 46 (by decide +kernel) rfl, Tg_in9 47 (by decide +kernel) rfl, Tg_in1 13 (by decide +kernel) rfl, Tg_in9 48 (by decide +kernel) rfl, ⟨by decide, by decide, by decide +kernel⟩, TX12, 75, rfl⟩
theorem ml_L_83 : Cond.methodLink RL 83 yX11_node ∈ Tg := Tg_in6 30 (by decide +kernel) rfl
theorem yv_X11_node : YV yX11_node cX11_node 4 (some .int) 2 11 := ⟨Tg_in6 31 (by decide +kernel) rfl, Tg_in6 32 (by decide +kernel) rfl, Tg_in1 1 (by decide +kernel) rfl, Tg_in6 33 (by decide +kernel) rfl, ⟨by decide, by decide, by decide +kernel⟩, TX11, 17, rfl⟩
theorem ml_L_86 : Cond.methodLink RL 86 yX12_node ∈ Tg := Tg_in9 124 (by decide +kernel) rfl
theorem yv_X12_node : YV yX12_node cX12_node 3 (some .int) 2 12 := ⟨Tg_in9 125 (by decide +kernel) rfl, Tg_in9 126 (by decide +kernel) rfl, Tg_in1 13 (by decide +kernel) rfl, Tg_in9 127 (by decide +kernel) rfl, ⟨by decide, by decide, by decide +kernel⟩, TX12, 75, rfl⟩
theorem ml_L_87 : Cond.methodLink RL 87 yX11_value ∈ Tg := Tg_in6 42 (by decide +kernel) rfl
theorem yv_X11_value : YV yX11_value cX11_value 4 (some .int) 2 11 := ⟨Tg_in6 43 (by decide +kernel) rfl, Tg_in6 44 (by decide +kernel) rfl, Tg_in1 1 (by decide +kernel) rfl, Tg_in6 45 (by decide +kernel) rfl, ⟨by decide, by decide, by decide +kernel⟩, TX11, 17, rfl⟩
theorem ml_L_90 : Cond.methodLink RL 90 yX12_value ∈ Tg := Tg_in9 136 (by decide +kernel) rfl
theorem yv_X12_value : YV yX12_value cX12_value 3 (some .int) 2 12 := ⟨Tg_in9 137 (by decide +kernel) rfl, Tg_in9 138 (by decide +kernel) rfl, Tg_in1 13 (by decide +kernel) rfl, Tg_in9 139 (by decide +kernel) rfl, ⟨by decide, by decide, by decide +kernel⟩, TX12, 75, rfl⟩
theorem ml_L_91 : Cond.methodLink RL 91 yX11_knot ∈ Tg := Tg_in6 51 (by decide +kernel) rfl
theorem yv_X11_knot : YV yX11_knot cX11_knot 6 (some .int) 3 11 := ⟨Tg_in6 52 (by decide +kernel) rfl, Tg_in6 53 (by decide +kernel) rfl, Tg_in1 1 (by decide +kernel) rfl, Tg_in6 54 (by decide +kernel) rfl, ⟨by decide, by decide, by decide +kernel⟩, TX11, 17, rfl⟩
theorem ml_L_94 : Cond.methodLink RL 94 yX12_knot ∈ Tg := Tg_in9 144 (by decide +kernel) rfl
theorem yv_X12_knot : YV yX12_knot cX12_knot 7 (some .int) 3 12 := ⟨Tg_in9 145 (by decide +kernel) rfl, Tg_in9 146 (by decide +kernel) rfl, Tg_in1 13 (by decide +kernel) rfl, Tg_in9 147 (by decide +kernel) rfl, ⟨by decide, by decide, by decide +kernel⟩, TX12, 75, rfl⟩
theorem ml_L_95 : Cond.methodLink RL 95 yX11_span ∈ Tg := Tg_in6 57 (by decide +kernel) rfl
theorem yv_X11_span : YV yX11_span cX11_span 6 (some .int) 3 11 := ⟨Tg_in6 58 (by decide +kernel) rfl, Tg_in6 59 (by decide +kernel) rfl, Tg_in1 1 (by decide +kernel) rfl, Tg_in6 60 (by decide +kernel) rfl, ⟨by decide, by decide, by decide +kernel⟩, TX11, 17, rfl⟩
theorem ml_L_98 : Cond.methodLink RL 98 yX12_span ∈ Tg := Tg_in9 148 (by decide +kernel) rfl
theorem yv_X12_span : YV yX12_span cX12_span 7 (some .int) 3 12 := ⟨Tg_in9 149 (by decide +kernel) rfl, Tg_in9 150 (by decide +kernel) rfl, Tg_in1 13 (by decide +kernel) rfl, Tg_in9 151 (by decide +kernel) rfl, ⟨by decide, by decide, by decide +kernel⟩, TX12, 75, rfl⟩
theorem ml_L_99 : Cond.methodLink RL 99 yX11_run ∈ Tg := Tg_in6 81 (by decide +kernel) rfl
theorem yv_X11_run : YV yX11_run cX11_run 4 (some .int) 1 11 := ⟨Tg_in6 82 (by decide +kernel) rfl, Tg_in6 83 (by decide +kernel) rfl, Tg_in1 1 (by decide +kernel) rfl, Tg_in6 84 (by decide +kernel) rfl, ⟨by decide, by decide, by decide +kernel⟩, TX11, 17, rfl⟩
theorem ml_L_102 : Cond.methodLink RL 102 yX12_run ∈ Tg := Tg_in9 152 (by decide +kernel) rfl
theorem yv_X12_run : YV yX12_run cX12_run 5 (some .int) 1 12 := ⟨Tg_in9 153 (by decide +kernel) rfl, Tg_in9 154 (by decide +kernel) rfl, Tg_in1 13 (by decide +kernel) rfl, Tg_in9 155 (by decide +kernel) rfl, ⟨by decide, by decide, by decide +kernel⟩, TX12, 75, rfl⟩
theorem ml_L_103 : Cond.methodLink RL 103 yX11_longest ∈ Tg := Tg_in6 85 (by decide +kernel) rfl
theorem yv_X11_longest : YV yX11_longest cX11_longest 1 (some .int) 0 11 := ⟨Tg_in6 86 (by decide +kernel) rfl, Tg_in6 87 (by decide +kernel) rfl, Tg_in1 1 (by decide +kernel) rfl, Tg_in6 88 (by decide +kernel) rfl, ⟨by decide, by decide, by decide +kernel⟩, TX11, 17, rfl⟩
theorem ml_L_106 : Cond.methodLink RL 106 yX12_longest ∈ Tg := Tg_in9 156 (by decide +kernel) rfl
theorem yv_X12_longest : YV yX12_longest cX12_longest 5 (some .int) 0 12 := ⟨Tg_in9 157 (by decide +kernel) rfl, Tg_in9 158 (by decide +kernel) rfl, Tg_in1 13 (by decide +kernel) rfl, Tg_in9 159 (by decide +kernel) rfl, ⟨by decide, by decide, by decide +kernel⟩, TX12, 75, rfl⟩
theorem ml_L_107 : Cond.methodLink RL 107 yX11_put ∈ Tg := Tg_in6 99 (by decide +kernel) rfl
theorem yv_X11_put : YV yX11_put cX11_put 4 (some .int) 2 11 := ⟨Tg_in6 100 (by decide +kernel) rfl, Tg_in6 101 (by decide +kernel) rfl, Tg_in1 1 (by decide +kernel) rfl, Tg_in6 102 (by decide +kernel) rfl, ⟨by decide, by decide, by decide +kernel⟩, TX11, 17, rfl⟩
theorem ml_L_110 : Cond.methodLink RL 110 yX12_put ∈ Tg := Tg_in9 160 (by decide +kernel) rfl
theorem yv_X12_put : YV yX12_put cX12_put 5 (some .int) 2 12 := ⟨Tg_in9 161 (by decide +kernel) rfl, Tg_in9 162 (by decide +kernel) rfl, Tg_in1 13 (by decide +kernel) rfl, Tg_in9 163 (by decide +kernel) rfl, ⟨by decide, by decide, by decide +kernel⟩, TX12, 75, rfl⟩
theorem ml_L_111 : Cond.methodLink RL 111 yX11_give ∈ Tg := Tg_in6 153 (by decide +kernel) rfl
theorem yv_X11_give : YV yX11_give cX11_give 4 (some .int) 2 11 := ⟨Tg_in6 154 (by decide +kernel) rfl, Tg_in6 155 (by decide +kernel) rfl, Tg_in1 1 (by decide +kernel) rfl, Tg_in6 156 (by decide +kernel) rfl, ⟨by decide, by decide, by decide +kernel⟩, TX11, 17, rfl⟩
theorem ml_L_114 : Cond.methodLink RL 114 yX12_give ∈ Tg := Tg_in9 188 (by decide +kernel) rfl
theorem yv_X12_give : YV yX12_give cX12_give 4 (some .int) 2 12 := ⟨Tg_in9 189 (by decide +kernel) rfl, Tg_in9 190 (by decide +kernel) rfl, Tg_in1 13 (by decide +kernel) rfl, Tg_in9 191 (by decide +kernel) rfl, ⟨by decide, by decide, by decide +kernel⟩, TX12, 75, rfl⟩
theorem ml_L_115 : Cond.methodLink RL 115 yX11_graft ∈ Tg := Tg_in6 158 (by decide +kernel) rfl
theorem yv_X11_graft : YV yX11_graft cX11_graft 7 (some .int) 2 11 := ⟨Tg_in6 159 (by decide +kernel) rfl, Tg_in6 160 (by decide +kernel) rfl, Tg_in1 1 (by decide +kernel) rfl, Tg_in6 161 (by decide +kernel) rfl, ⟨by decide, by decide, by decide +kernel⟩, TX11, 17, rfl⟩
theorem ml_L_118 : Cond.methodLink RL 118 yX12_graft ∈ Tg := Tg_in9 192 (by decide +kernel) rfl
theorem yv_X12_graft : YV yX12_graft cX12_graft 8 (some .int) 2 12 := ⟨Tg_in9 193 (by decide +kernel) rfl, Tg_in9 194 (by decide +kernel) rfl, Tg_in1 13 (by decide +kernel) rfl, Tg_in9 195 (by decide +kernel) rfl, ⟨by decide, by decide, by decide +kernel⟩, TX12, 75, rfl⟩
theorem ml_L_119 : Cond.methodLink RL 119 yX11_anew ∈ Tg := Tg_in6 186 (by decide +kernel) rfl
theorem yv_X11_anew : YV yX11_anew cX11_anew 2 (some .int) 1 11 := ⟨Tg_in6 187 (by decide +kernel) rfl, Tg_in6 188 (by decide +kernel) rfl, Tg_in1 1 (by decide +kernel) rfl, Tg_in6 189 (by decide +kernel) rfl, ⟨by decide, by decide, by decide +kernel⟩, TX11, 17, rfl⟩
theorem ml_L_122 : Cond.methodLink RL 122 yX12_anew ∈ Tg := Tg_in9 204 (by decide +kernel) rfl
theorem yv_X12_anew : YV yX12_anew cX12_anew 2 (some .int) 1 12 := ⟨Tg_in9 205 (by decide +kernel) rfl, Tg_in9 206 (by decide +kernel) rfl, Tg_in1 13 (by decide +kernel) rfl, Tg_in9 207 (by decide +kernel) rfl, ⟨by decide, by decide, by decide +kernel⟩, TX12, 75, rfl⟩
theorem ml_L_123 : Cond.methodLink RL 123 yX11_digest ∈ Tg := Tg_in6 190 (by decide +kernel) rfl
theorem yv_X11_digest : YV yX11_digest cX11_digest 3 (some .int) 0 11 := ⟨Tg_in6 191 (by decide +kernel) rfl, Tg_in6 192 (by decide +kernel) rfl, Tg_in1 1 (by decide +kernel) rfl, Tg_in6 193 (by decide +kernel) rfl, ⟨by decide, by decide, by decide +kernel⟩, TX11, 17, rfl⟩
theorem ml_L_126 : Cond.methodLink RL 126 yX12_digest ∈ Tg := Tg_in9 208 (by decide +kernel) rfl
theorem yv_X12_digest : YV yX12_digest cX12_digest 3 (some .int) 0 12 := ⟨Tg_in9 209 (by decide +kernel) rfl, Tg_in9 210 (by decide +kernel) rfl, Tg_in1 13 (by decide +kernel) rfl, Tg_in9 211 (by decide +kernel) rfl, ⟨by decide, by decide, by decide +kernel⟩, TX12, 75, rfl⟩
set_option maxHeartbeats 4000000 in
set_option maxRecDepth 100000 in
theorem cl_L_law_18 {w : Wp} {X : Cx} {Q : State → Prop} {ρ : Int32 × Mm} {b : Nat} {L : Nat} {xs : Nat → Int32} (G : Good w X cL_law 4 RL (some .boolean) 1000) (hret : ∀ {pc : Nat} {env : List (Nat × Value)} {v : Int32} {M : Mm}, decode cL_law pc = .ok (.ireturn, 1) → Cov w X Q ρ some 4 pc env [.int v] M (retZ v M)) (hsld : ∀ {pc : Nat} {env : List (Nat × Value)} {st : List Value} {M : Mm} {i : Int32} {fn : Int32 → Option (Int32 × Mm)}, decode cL_law pc = .ok (.iaload, 1) → (∀ v, ldS L xs i = some v → Cov w X Q ρ some 4 (pc + 1) env (.int v :: st) M (fn v)) → Cov w X Q ρ some 4 pc env (.int i :: .ref b :: st) M ((ldS L xs i).bind fn)) (hslen : ∀ {pc : Nat} {env : List (Nat × Value)} {st : List Value} {M : Mm} {t : Option (Int32 × Mm)}, decode cL_law pc = .ok (.arraylength, 1) → Cov w X Q ρ some 4 (pc + 1) env (.int (Int32.ofNat L) :: st) M t → Cov w X Q ρ some 4 pc env (.ref b :: st) M t) {N : Nat} : ∀ (n : Nat) (l3_1 : Int32) (M1 : Mm), Cov w X Q ρ some 4 18 [(0, .ref b), (1, .ref (wB w + pz (1))), (2, .ref (wB w + pz (137))), (3, .int l3_1)] [] M1 (L_L_law_18 L xs N n l3_1 M1) := by
  intro n
  induction n with
  | zero => intro l3_1 M1; exact c_none
  | succ n ih =>
    intro l3_1 M1
    rw [L_L_law_18]
    refine c_iload_n G dL_law_18 rfl 3 rfl ?_
    refine c_aload_n G dL_law_19 rfl 0 rfl ?_
    refine hslen dL_law_20 ?_
    refine c_bipush G (nI 6) dL_law_21 kB_6 ?_
    refine c_isub G dL_law_23 ?_
    refine c_icmp_gt (tgt := 973) G dL_law_24 (by decide) (fun _ => ?_) (fun _ => ?_)
    · skip
      refine c_iconst G (nI 1) dL_law_973 kI_1 ?_
      exact hret dL_law_974
    · skip
      refine c_aload_n G dL_law_27 rfl 0 rfl ?_
      refine c_iload_n G dL_law_28 rfl 3 rfl ?_
      refine hsld dL_law_29 (fun v1 _ => ?_)
      refine c_bipush G (nI 31) dL_law_30 kB_31 ?_
      refine c_iand G dL_law_32 ?_
      refine c_tsw (tgt := 156) G (nI 0) 0 dL_law_33 (by decide +kernel) (by decide +kernel) rfl (by decide) (fun _ => ?_) (fun hn0 => ?_)
      · skip
        refine c_aload_n G dL_law_156 rfl 1 rfl ?_
        refine c_callV_PI (d := 0) (rest := []) G [] yv_X11_status ml_L_13 (by omega) (by decide) rfl rfl (Nat.le_of_ble_eq_true rfl) lay_x (fun q hq => con_X11_status lay_x hq) dL_law_157 (fun q1 _ => ?_)
        refine c_aload_n G dL_law_160 rfl 2 rfl ?_
        refine c_callV_PI (d := 0) (rest := [.int q1]) G [] yv_X12_status ml_L_17 (by omega) (by decide) rfl rfl (Nat.le_of_ble_eq_true rfl) lay_m (fun q hq => con_X12_status lay_m hq) dL_law_161 (fun q2 _ => ?_)
        refine c_icmp_eq (tgt := 967) G dL_law_164 (by decide) (fun _ => ?_) (fun _ => ?_)
        · skip
          refine c_iinc G (fun y__ => [(3, .int y__), (0, .ref b), (1, .ref (wB w + pz (1))), (2, .ref (wB w + pz (137)))]) dL_law_967 3 rfl kI_6 (by decide) (fun _ => rfl) (fun l3_2 _ => ?_)
          refine c_goto (tgt := 18) G dL_law_970 (by decide) ?_
          exact c_weak _ [1, 2, 3, 0] rfl (ih l3_2 M1)
        · skip
          refine c_iconst G (nI 0) dL_law_167 kI_0 ?_
          exact hret dL_law_168
      · skip
        refine c_tsw (tgt := 169) G (nI 1) 1 dL_law_33 (by decide +kernel) (by decide +kernel) rfl (by decide) (fun _ => ?_) (fun hn1 => ?_)
        · skip
          refine c_aload_n G dL_law_169 rfl 1 rfl ?_
          refine c_aload_n G dL_law_170 rfl 0 rfl ?_
          refine c_iload_n G dL_law_171 rfl 3 rfl ?_
          refine c_iconst G (nI 1) dL_law_172 kI_1 ?_
          refine c_iadd G dL_law_173 ?_
          refine hsld dL_law_174 (fun v2 _ => ?_)
          refine c_aload_n G dL_law_175 rfl 0 rfl ?_
          refine c_iload_n G dL_law_176 rfl 3 rfl ?_
          refine c_iconst G (nI 2) dL_law_177 kI_2 ?_
          refine c_iadd G dL_law_178 ?_
          refine hsld dL_law_179 (fun v3 _ => ?_)
          refine c_aload_n G dL_law_180 rfl 0 rfl ?_
          refine c_iload_n G dL_law_181 rfl 3 rfl ?_
          refine c_iconst G (nI 3) dL_law_182 kI_3 ?_
          refine c_iadd G dL_law_183 ?_
          refine hsld dL_law_184 (fun v4 _ => ?_)
          refine c_aload_n G dL_law_185 rfl 0 rfl ?_
          refine c_iload_n G dL_law_186 rfl 3 rfl ?_
          refine c_iconst G (nI 4) dL_law_187 kI_4 ?_
          refine c_iadd G dL_law_188 ?_
          refine hsld dL_law_189 (fun v5 _ => ?_)
          refine c_aload_n G dL_law_190 rfl 0 rfl ?_
          refine c_iload_n G dL_law_191 rfl 3 rfl ?_
          refine c_iconst G (nI 5) dL_law_192 kI_5 ?_
          refine c_iadd G dL_law_193 ?_
          refine hsld dL_law_194 (fun v6 _ => ?_)
          refine c_callV_I (d := 1) (rest := []) G [.int v2, .int v3, .int v4, .int v5, .int v6] yv_X11_feed ml_L_18 (by omega) (by decide) rfl rfl (Nat.le_of_ble_eq_true rfl) lay_x (fun q hq => con_X11_feed lay_x hq) dL_law_195 (fun q3 _ => ?_)
          refine c_aload_n G dL_law_198 rfl 2 rfl ?_
          refine c_aload_n G dL_law_199 rfl 0 rfl ?_
          refine c_iload_n G dL_law_200 rfl 3 rfl ?_
          refine c_iconst G (nI 1) dL_law_201 kI_1 ?_
          refine c_iadd G dL_law_202 ?_
          refine hsld dL_law_203 (fun v7 _ => ?_)
          refine c_aload_n G dL_law_204 rfl 0 rfl ?_
          refine c_iload_n G dL_law_205 rfl 3 rfl ?_
          refine c_iconst G (nI 2) dL_law_206 kI_2 ?_
          refine c_iadd G dL_law_207 ?_
          refine hsld dL_law_208 (fun v8 _ => ?_)
          refine c_aload_n G dL_law_209 rfl 0 rfl ?_
          refine c_iload_n G dL_law_210 rfl 3 rfl ?_
          refine c_iconst G (nI 3) dL_law_211 kI_3 ?_
          refine c_iadd G dL_law_212 ?_
          refine hsld dL_law_213 (fun v9 _ => ?_)
          refine c_aload_n G dL_law_214 rfl 0 rfl ?_
          refine c_iload_n G dL_law_215 rfl 3 rfl ?_
          refine c_iconst G (nI 4) dL_law_216 kI_4 ?_
          refine c_iadd G dL_law_217 ?_
          refine hsld dL_law_218 (fun v10 _ => ?_)
          refine c_aload_n G dL_law_219 rfl 0 rfl ?_
          refine c_iload_n G dL_law_220 rfl 3 rfl ?_
          refine c_iconst G (nI 5) dL_law_221 kI_5 ?_
          refine c_iadd G dL_law_222 ?_
          refine hsld dL_law_223 (fun v11 _ => ?_)
          refine c_callV_I (d := 1) (rest := [.int q3.1]) G [.int v7, .int v8, .int v9, .int v10, .int v11] yv_X12_feed ml_L_22 (by omega) (by decide) rfl rfl (Nat.le_of_ble_eq_true rfl) lay_m (fun q hq => con_X12_feed lay_m hq) dL_law_224 (fun q4 _ => ?_)
          refine c_icmp_eq (tgt := 967) G dL_law_227 (by decide) (fun _ => ?_) (fun _ => ?_)
          · skip
            refine c_iinc G (fun y__ => [(3, .int y__), (0, .ref b), (1, .ref (wB w + pz (1))), (2, .ref (wB w + pz (137)))]) dL_law_967 3 rfl kI_6 (by decide) (fun _ => rfl) (fun l3_3 _ => ?_)
            refine c_goto (tgt := 18) G dL_law_970 (by decide) ?_
            exact c_weak _ [1, 2, 3, 0] rfl (ih l3_3 q4.2)
          · skip
            refine c_iconst G (nI 0) dL_law_230 kI_0 ?_
            exact hret dL_law_231
        · skip
          refine c_tsw (tgt := 232) G (nI 2) 2 dL_law_33 (by decide +kernel) (by decide +kernel) rfl (by decide) (fun _ => ?_) (fun hn2 => ?_)
          · skip
            refine c_aload_n G dL_law_232 rfl 1 rfl ?_
            refine c_aload_n G dL_law_233 rfl 0 rfl ?_
            refine c_iload_n G dL_law_234 rfl 3 rfl ?_
            refine c_iconst G (nI 1) dL_law_235 kI_1 ?_
            refine c_iadd G dL_law_236 ?_
            refine hsld dL_law_237 (fun v12 _ => ?_)
            refine c_callV_I (d := 30) (rest := []) G [.int v12] yv_X11_grammar ml_L_23 (by omega) (by decide) rfl rfl (Nat.le_of_ble_eq_true rfl) lay_x (fun q hq => con_X11_grammar lay_x hq) dL_law_238 (fun q5 _ => ?_)
            refine c_aload_n G dL_law_241 rfl 2 rfl ?_
            refine c_aload_n G dL_law_242 rfl 0 rfl ?_
            refine c_iload_n G dL_law_243 rfl 3 rfl ?_
            refine c_iconst G (nI 1) dL_law_244 kI_1 ?_
            refine c_iadd G dL_law_245 ?_
            refine hsld dL_law_246 (fun v13 _ => ?_)
            refine c_callV_I (d := 24) (rest := [.int q5.1]) G [.int v13] yv_X12_grammar ml_L_27 (by omega) (by decide) rfl rfl (Nat.le_of_ble_eq_true rfl) lay_m (fun q hq => con_X12_grammar lay_m hq) dL_law_247 (fun q6 _ => ?_)
            refine c_icmp_eq (tgt := 967) G dL_law_250 (by decide) (fun _ => ?_) (fun _ => ?_)
            · skip
              refine c_iinc G (fun y__ => [(3, .int y__), (0, .ref b), (1, .ref (wB w + pz (1))), (2, .ref (wB w + pz (137)))]) dL_law_967 3 rfl kI_6 (by decide) (fun _ => rfl) (fun l3_4 _ => ?_)
              refine c_goto (tgt := 18) G dL_law_970 (by decide) ?_
              exact c_weak _ [1, 2, 3, 0] rfl (ih l3_4 q6.2)
            · skip
              refine c_iconst G (nI 0) dL_law_253 kI_0 ?_
              exact hret dL_law_254
          · skip
            refine c_tsw (tgt := 255) G (nI 3) 3 dL_law_33 (by decide +kernel) (by decide +kernel) rfl (by decide) (fun _ => ?_) (fun hn3 => ?_)
            · skip
              refine c_aload_n G dL_law_255 rfl 1 rfl ?_
              refine c_aload_n G dL_law_256 rfl 0 rfl ?_
              refine c_iload_n G dL_law_257 rfl 3 rfl ?_
              refine c_iconst G (nI 1) dL_law_258 kI_1 ?_
              refine c_iadd G dL_law_259 ?_
              refine hsld dL_law_260 (fun v14 _ => ?_)
              refine c_callV_PI (d := 0) (rest := []) G [.int v14] yv_X11_fault ml_L_28 (by omega) (by decide) rfl rfl (Nat.le_of_ble_eq_true rfl) lay_x (fun q hq => con_X11_fault lay_x hq) dL_law_261 (fun q7 _ => ?_)
              refine c_aload_n G dL_law_264 rfl 2 rfl ?_
              refine c_aload_n G dL_law_265 rfl 0 rfl ?_
              refine c_iload_n G dL_law_266 rfl 3 rfl ?_
              refine c_iconst G (nI 1) dL_law_267 kI_1 ?_
              refine c_iadd G dL_law_268 ?_
              refine hsld dL_law_269 (fun v15 _ => ?_)
              refine c_callV_PI (d := 0) (rest := [.int q7]) G [.int v15] yv_X12_fault ml_L_31 (by omega) (by decide) rfl rfl (Nat.le_of_ble_eq_true rfl) lay_m (fun q hq => con_X12_fault lay_m hq) dL_law_270 (fun q8 _ => ?_)
              refine c_icmp_eq (tgt := 967) G dL_law_273 (by decide) (fun _ => ?_) (fun _ => ?_)
              · skip
                refine c_iinc G (fun y__ => [(3, .int y__), (0, .ref b), (1, .ref (wB w + pz (1))), (2, .ref (wB w + pz (137)))]) dL_law_967 3 rfl kI_6 (by decide) (fun _ => rfl) (fun l3_5 _ => ?_)
                refine c_goto (tgt := 18) G dL_law_970 (by decide) ?_
                exact c_weak _ [1, 2, 3, 0] rfl (ih l3_5 M1)
              · skip
                refine c_iconst G (nI 0) dL_law_276 kI_0 ?_
                exact hret dL_law_277
            · skip
              refine c_tsw (tgt := 278) G (nI 4) 4 dL_law_33 (by decide +kernel) (by decide +kernel) rfl (by decide) (fun _ => ?_) (fun hn4 => ?_)
              · skip
                refine c_aload_n G dL_law_278 rfl 1 rfl ?_
                refine c_aload_n G dL_law_279 rfl 0 rfl ?_
                refine c_iload_n G dL_law_280 rfl 3 rfl ?_
                refine c_iconst G (nI 1) dL_law_281 kI_1 ?_
                refine c_iadd G dL_law_282 ?_
                refine hsld dL_law_283 (fun v16 _ => ?_)
                refine c_callV_I (d := 2) (rest := []) G [.int v16] yv_X11_many ml_L_32 (by omega) (by decide) rfl rfl (Nat.le_of_ble_eq_true rfl) lay_x (fun q hq => con_X11_many lay_x hq) dL_law_284 (fun q9 _ => ?_)
                refine c_aload_n G dL_law_287 rfl 2 rfl ?_
                refine c_aload_n G dL_law_288 rfl 0 rfl ?_
                refine c_iload_n G dL_law_289 rfl 3 rfl ?_
                refine c_iconst G (nI 1) dL_law_290 kI_1 ?_
                refine c_iadd G dL_law_291 ?_
                refine hsld dL_law_292 (fun v17 _ => ?_)
                refine c_callV_I (d := 1) (rest := [.int q9.1]) G [.int v17] yv_X12_many ml_L_35 (by omega) (by decide) rfl rfl (Nat.le_of_ble_eq_true rfl) lay_m (fun q hq => con_X12_many lay_m hq) dL_law_293 (fun q10 _ => ?_)
                refine c_icmp_eq (tgt := 967) G dL_law_296 (by decide) (fun _ => ?_) (fun _ => ?_)
                · skip
                  refine c_iinc G (fun y__ => [(3, .int y__), (0, .ref b), (1, .ref (wB w + pz (1))), (2, .ref (wB w + pz (137)))]) dL_law_967 3 rfl kI_6 (by decide) (fun _ => rfl) (fun l3_6 _ => ?_)
                  refine c_goto (tgt := 18) G dL_law_970 (by decide) ?_
                  exact c_weak _ [1, 2, 3, 0] rfl (ih l3_6 q10.2)
                · skip
                  refine c_iconst G (nI 0) dL_law_299 kI_0 ?_
                  exact hret dL_law_300
              · skip
                refine c_tsw (tgt := 301) G (nI 5) 5 dL_law_33 (by decide +kernel) (by decide +kernel) rfl (by decide) (fun _ => ?_) (fun hn5 => ?_)
                · skip
                  refine c_aload_n G dL_law_301 rfl 1 rfl ?_
                  refine c_aload_n G dL_law_302 rfl 0 rfl ?_
                  refine c_iload_n G dL_law_303 rfl 3 rfl ?_
                  refine c_iconst G (nI 1) dL_law_304 kI_1 ?_
                  refine c_iadd G dL_law_305 ?_
                  refine hsld dL_law_306 (fun v18 _ => ?_)
                  refine c_aload_n G dL_law_307 rfl 0 rfl ?_
                  refine c_iload_n G dL_law_308 rfl 3 rfl ?_
                  refine c_iconst G (nI 2) dL_law_309 kI_2 ?_
                  refine c_iadd G dL_law_310 ?_
                  refine hsld dL_law_311 (fun v19 _ => ?_)
                  refine c_callV_I (d := 2) (rest := []) G [.int v18, .int v19] yv_X11_symbol ml_L_36 (by omega) (by decide) rfl rfl (Nat.le_of_ble_eq_true rfl) lay_x (fun q hq => con_X11_symbol lay_x hq) dL_law_312 (fun q11 _ => ?_)
                  refine c_aload_n G dL_law_315 rfl 2 rfl ?_
                  refine c_aload_n G dL_law_316 rfl 0 rfl ?_
                  refine c_iload_n G dL_law_317 rfl 3 rfl ?_
                  refine c_iconst G (nI 1) dL_law_318 kI_1 ?_
                  refine c_iadd G dL_law_319 ?_
                  refine hsld dL_law_320 (fun v20 _ => ?_)
                  refine c_aload_n G dL_law_321 rfl 0 rfl ?_
                  refine c_iload_n G dL_law_322 rfl 3 rfl ?_
                  refine c_iconst G (nI 2) dL_law_323 kI_2 ?_
                  refine c_iadd G dL_law_324 ?_
                  refine hsld dL_law_325 (fun v21 _ => ?_)
                  refine c_callV_I (d := 5) (rest := [.int q11.1]) G [.int v20, .int v21] yv_X12_symbol ml_L_40 (by omega) (by decide) rfl rfl (Nat.le_of_ble_eq_true rfl) lay_m (fun q hq => con_X12_symbol lay_m hq) dL_law_326 (fun q12 _ => ?_)
                  refine c_icmp_eq (tgt := 967) G dL_law_329 (by decide) (fun _ => ?_) (fun _ => ?_)
                  · skip
                    refine c_iinc G (fun y__ => [(3, .int y__), (0, .ref b), (1, .ref (wB w + pz (1))), (2, .ref (wB w + pz (137)))]) dL_law_967 3 rfl kI_6 (by decide) (fun _ => rfl) (fun l3_7 _ => ?_)
                    refine c_goto (tgt := 18) G dL_law_970 (by decide) ?_
                    exact c_weak _ [1, 2, 3, 0] rfl (ih l3_7 q12.2)
                  · skip
                    refine c_iconst G (nI 0) dL_law_332 kI_0 ?_
                    exact hret dL_law_333
                · skip
                  refine c_tsw (tgt := 334) G (nI 6) 6 dL_law_33 (by decide +kernel) (by decide +kernel) rfl (by decide) (fun _ => ?_) (fun hn6 => ?_)
                  · skip
                    refine c_aload_n G dL_law_334 rfl 1 rfl ?_
                    refine c_aload_n G dL_law_335 rfl 0 rfl ?_
                    refine c_iload_n G dL_law_336 rfl 3 rfl ?_
                    refine c_iconst G (nI 1) dL_law_337 kI_1 ?_
                    refine c_iadd G dL_law_338 ?_
                    refine hsld dL_law_339 (fun v22 _ => ?_)
                    refine c_aload_n G dL_law_340 rfl 0 rfl ?_
                    refine c_iload_n G dL_law_341 rfl 3 rfl ?_
                    refine c_iconst G (nI 2) dL_law_342 kI_2 ?_
                    refine c_iadd G dL_law_343 ?_
                    refine hsld dL_law_344 (fun v23 _ => ?_)
                    refine c_callV_I (d := 1) (rest := []) G [.int v22, .int v23] yv_X11_production ml_L_41 (by omega) (by decide) rfl rfl (Nat.le_of_ble_eq_true rfl) lay_x (fun q hq => con_X11_production lay_x hq) dL_law_345 (fun q13 _ => ?_)
                    refine c_aload_n G dL_law_348 rfl 2 rfl ?_
                    refine c_aload_n G dL_law_349 rfl 0 rfl ?_
                    refine c_iload_n G dL_law_350 rfl 3 rfl ?_
                    refine c_iconst G (nI 1) dL_law_351 kI_1 ?_
                    refine c_iadd G dL_law_352 ?_
                    refine hsld dL_law_353 (fun v24 _ => ?_)
                    refine c_aload_n G dL_law_354 rfl 0 rfl ?_
                    refine c_iload_n G dL_law_355 rfl 3 rfl ?_
                    refine c_iconst G (nI 2) dL_law_356 kI_2 ?_
                    refine c_iadd G dL_law_357 ?_
                    refine hsld dL_law_358 (fun v25 _ => ?_)
                    refine c_callV_I (d := 2) (rest := [.int q13.1]) G [.int v24, .int v25] yv_X12_production ml_L_44 (by omega) (by decide) rfl rfl (Nat.le_of_ble_eq_true rfl) lay_m (fun q hq => con_X12_production lay_m hq) dL_law_359 (fun q14 _ => ?_)
                    refine c_icmp_eq (tgt := 967) G dL_law_362 (by decide) (fun _ => ?_) (fun _ => ?_)
                    · skip
                      refine c_iinc G (fun y__ => [(3, .int y__), (0, .ref b), (1, .ref (wB w + pz (1))), (2, .ref (wB w + pz (137)))]) dL_law_967 3 rfl kI_6 (by decide) (fun _ => rfl) (fun l3_8 _ => ?_)
                      refine c_goto (tgt := 18) G dL_law_970 (by decide) ?_
                      exact c_weak _ [1, 2, 3, 0] rfl (ih l3_8 q14.2)
                    · skip
                      refine c_iconst G (nI 0) dL_law_365 kI_0 ?_
                      exact hret dL_law_366
                  · skip
                    refine c_tsw (tgt := 367) G (nI 7) 7 dL_law_33 (by decide +kernel) (by decide +kernel) rfl (by decide) (fun _ => ?_) (fun hn7 => ?_)
                    · skip
                      refine c_aload_n G dL_law_367 rfl 1 rfl ?_
                      refine c_aload_n G dL_law_368 rfl 0 rfl ?_
                      refine c_iload_n G dL_law_369 rfl 3 rfl ?_
                      refine c_iconst G (nI 1) dL_law_370 kI_1 ?_
                      refine c_iadd G dL_law_371 ?_
                      refine hsld dL_law_372 (fun v26 _ => ?_)
                      refine c_aload_n G dL_law_373 rfl 0 rfl ?_
                      refine c_iload_n G dL_law_374 rfl 3 rfl ?_
                      refine c_iconst G (nI 2) dL_law_375 kI_2 ?_
                      refine c_iadd G dL_law_376 ?_
                      refine hsld dL_law_377 (fun v27 _ => ?_)
                      refine c_aload_n G dL_law_378 rfl 0 rfl ?_
                      refine c_iload_n G dL_law_379 rfl 3 rfl ?_
                      refine c_iconst G (nI 3) dL_law_380 kI_3 ?_
                      refine c_iadd G dL_law_381 ?_
                      refine hsld dL_law_382 (fun v28 _ => ?_)
                      refine c_aload_n G dL_law_383 rfl 0 rfl ?_
                      refine c_iload_n G dL_law_384 rfl 3 rfl ?_
                      refine c_iconst G (nI 4) dL_law_385 kI_4 ?_
                      refine c_iadd G dL_law_386 ?_
                      refine hsld dL_law_387 (fun v29 _ => ?_)
                      refine c_callV_I (d := 2) (rest := []) G [.int v26, .int v27, .int v28, .int v29] yv_X11_hangs ml_L_45 (by omega) (by decide) rfl rfl (Nat.le_of_ble_eq_true rfl) lay_x (fun q hq => con_X11_hangs lay_x hq) dL_law_388 (fun q15 _ => ?_)
                      refine c_aload_n G dL_law_391 rfl 2 rfl ?_
                      refine c_aload_n G dL_law_392 rfl 0 rfl ?_
                      refine c_iload_n G dL_law_393 rfl 3 rfl ?_
                      refine c_iconst G (nI 1) dL_law_394 kI_1 ?_
                      refine c_iadd G dL_law_395 ?_
                      refine hsld dL_law_396 (fun v30 _ => ?_)
                      refine c_aload_n G dL_law_397 rfl 0 rfl ?_
                      refine c_iload_n G dL_law_398 rfl 3 rfl ?_
                      refine c_iconst G (nI 2) dL_law_399 kI_2 ?_
                      refine c_iadd G dL_law_400 ?_
                      refine hsld dL_law_401 (fun v31 _ => ?_)
                      refine c_aload_n G dL_law_402 rfl 0 rfl ?_
                      refine c_iload_n G dL_law_403 rfl 3 rfl ?_
                      refine c_iconst G (nI 3) dL_law_404 kI_3 ?_
                      refine c_iadd G dL_law_405 ?_
                      refine hsld dL_law_406 (fun v32 _ => ?_)
                      refine c_aload_n G dL_law_407 rfl 0 rfl ?_
                      refine c_iload_n G dL_law_408 rfl 3 rfl ?_
                      refine c_iconst G (nI 4) dL_law_409 kI_4 ?_
                      refine c_iadd G dL_law_410 ?_
                      refine hsld dL_law_411 (fun v33 _ => ?_)
                      refine c_callV_I (d := 8) (rest := [.int q15.1]) G [.int v30, .int v31, .int v32, .int v33] yv_X12_hangs ml_L_49 (by omega) (by decide) rfl rfl (Nat.le_of_ble_eq_true rfl) lay_m (fun q hq => con_X12_hangs lay_m hq) dL_law_412 (fun q16 _ => ?_)
                      refine c_icmp_eq (tgt := 967) G dL_law_415 (by decide) (fun _ => ?_) (fun _ => ?_)
                      · skip
                        refine c_iinc G (fun y__ => [(3, .int y__), (0, .ref b), (1, .ref (wB w + pz (1))), (2, .ref (wB w + pz (137)))]) dL_law_967 3 rfl kI_6 (by decide) (fun _ => rfl) (fun l3_9 _ => ?_)
                        refine c_goto (tgt := 18) G dL_law_970 (by decide) ?_
                        exact c_weak _ [1, 2, 3, 0] rfl (ih l3_9 q16.2)
                      · skip
                        refine c_iconst G (nI 0) dL_law_418 kI_0 ?_
                        exact hret dL_law_419
                    · skip
                      refine c_tsw (tgt := 420) G (nI 8) 8 dL_law_33 (by decide +kernel) (by decide +kernel) rfl (by decide) (fun _ => ?_) (fun hn8 => ?_)
                      · skip
                        refine c_aload_n G dL_law_420 rfl 1 rfl ?_
                        refine c_aload_n G dL_law_421 rfl 0 rfl ?_
                        refine c_iload_n G dL_law_422 rfl 3 rfl ?_
                        refine c_iconst G (nI 1) dL_law_423 kI_1 ?_
                        refine c_iadd G dL_law_424 ?_
                        refine hsld dL_law_425 (fun v34 _ => ?_)
                        refine c_aload_n G dL_law_426 rfl 0 rfl ?_
                        refine c_iload_n G dL_law_427 rfl 3 rfl ?_
                        refine c_iconst G (nI 2) dL_law_428 kI_2 ?_
                        refine c_iadd G dL_law_429 ?_
                        refine hsld dL_law_430 (fun v35 _ => ?_)
                        refine c_aload_n G dL_law_431 rfl 0 rfl ?_
                        refine c_iload_n G dL_law_432 rfl 3 rfl ?_
                        refine c_iconst G (nI 3) dL_law_433 kI_3 ?_
                        refine c_iadd G dL_law_434 ?_
                        refine hsld dL_law_435 (fun v36 _ => ?_)
                        refine c_callV_I (d := 2) (rest := []) G [.int v34, .int v35, .int v36] yv_X11_induced ml_L_50 (by omega) (by decide) rfl rfl (Nat.le_of_ble_eq_true rfl) lay_x (fun q hq => con_X11_induced lay_x hq) dL_law_436 (fun q17 _ => ?_)
                        refine c_aload_n G dL_law_439 rfl 2 rfl ?_
                        refine c_aload_n G dL_law_440 rfl 0 rfl ?_
                        refine c_iload_n G dL_law_441 rfl 3 rfl ?_
                        refine c_iconst G (nI 1) dL_law_442 kI_1 ?_
                        refine c_iadd G dL_law_443 ?_
                        refine hsld dL_law_444 (fun v37 _ => ?_)
                        refine c_aload_n G dL_law_445 rfl 0 rfl ?_
                        refine c_iload_n G dL_law_446 rfl 3 rfl ?_
                        refine c_iconst G (nI 2) dL_law_447 kI_2 ?_
                        refine c_iadd G dL_law_448 ?_
                        refine hsld dL_law_449 (fun v38 _ => ?_)
                        refine c_aload_n G dL_law_450 rfl 0 rfl ?_
                        refine c_iload_n G dL_law_451 rfl 3 rfl ?_
                        refine c_iconst G (nI 3) dL_law_452 kI_3 ?_
                        refine c_iadd G dL_law_453 ?_
                        refine hsld dL_law_454 (fun v39 _ => ?_)
                        refine c_callV_I (d := 3) (rest := [.int q17.1]) G [.int v37, .int v38, .int v39] yv_X12_induced ml_L_54 (by omega) (by decide) rfl rfl (Nat.le_of_ble_eq_true rfl) lay_m (fun q hq => con_X12_induced lay_m hq) dL_law_455 (fun q18 _ => ?_)
                        refine c_icmp_eq (tgt := 967) G dL_law_458 (by decide) (fun _ => ?_) (fun _ => ?_)
                        · skip
                          refine c_iinc G (fun y__ => [(3, .int y__), (0, .ref b), (1, .ref (wB w + pz (1))), (2, .ref (wB w + pz (137)))]) dL_law_967 3 rfl kI_6 (by decide) (fun _ => rfl) (fun l3_10 _ => ?_)
                          refine c_goto (tgt := 18) G dL_law_970 (by decide) ?_
                          exact c_weak _ [1, 2, 3, 0] rfl (ih l3_10 q18.2)
                        · skip
                          refine c_iconst G (nI 0) dL_law_461 kI_0 ?_
                          exact hret dL_law_462
                      · skip
                        refine c_tsw (tgt := 463) G (nI 9) 9 dL_law_33 (by decide +kernel) (by decide +kernel) rfl (by decide) (fun _ => ?_) (fun hn9 => ?_)
                        · skip
                          refine c_aload_n G dL_law_463 rfl 1 rfl ?_
                          refine c_aload_n G dL_law_464 rfl 0 rfl ?_
                          refine c_iload_n G dL_law_465 rfl 3 rfl ?_
                          refine c_iconst G (nI 1) dL_law_466 kI_1 ?_
                          refine c_iadd G dL_law_467 ?_
                          refine hsld dL_law_468 (fun v40 _ => ?_)
                          refine c_callV_I (d := 1) (rest := []) G [.int v40] yv_X11_circle ml_L_55 (by omega) (by decide) rfl rfl (Nat.le_of_ble_eq_true rfl) lay_x (fun q hq => con_X11_circle lay_x hq) dL_law_469 (fun q19 _ => ?_)
                          refine c_aload_n G dL_law_472 rfl 2 rfl ?_
                          refine c_aload_n G dL_law_473 rfl 0 rfl ?_
                          refine c_iload_n G dL_law_474 rfl 3 rfl ?_
                          refine c_iconst G (nI 1) dL_law_475 kI_1 ?_
                          refine c_iadd G dL_law_476 ?_
                          refine hsld dL_law_477 (fun v41 _ => ?_)
                          refine c_callV_I (d := 5) (rest := [.int q19.1]) G [.int v41] yv_X12_circle ml_L_58 (by omega) (by decide) rfl rfl (Nat.le_of_ble_eq_true rfl) lay_m (fun q hq => con_X12_circle lay_m hq) dL_law_478 (fun q20 _ => ?_)
                          refine c_icmp_eq (tgt := 967) G dL_law_481 (by decide) (fun _ => ?_) (fun _ => ?_)
                          · skip
                            refine c_iinc G (fun y__ => [(3, .int y__), (0, .ref b), (1, .ref (wB w + pz (1))), (2, .ref (wB w + pz (137)))]) dL_law_967 3 rfl kI_6 (by decide) (fun _ => rfl) (fun l3_11 _ => ?_)
                            refine c_goto (tgt := 18) G dL_law_970 (by decide) ?_
                            exact c_weak _ [1, 2, 3, 0] rfl (ih l3_11 q20.2)
                          · skip
                            refine c_iconst G (nI 0) dL_law_484 kI_0 ?_
                            exact hret dL_law_485
                        · skip
                          refine c_tsw (tgt := 486) G (nI 10) 10 dL_law_33 (by decide +kernel) (by decide +kernel) rfl (by decide) (fun _ => ?_) (fun hn10 => ?_)
                          · skip
                            refine c_aload_n G dL_law_486 rfl 1 rfl ?_
                            refine c_aload_n G dL_law_487 rfl 0 rfl ?_
                            refine c_iload_n G dL_law_488 rfl 3 rfl ?_
                            refine c_iconst G (nI 1) dL_law_489 kI_1 ?_
                            refine c_iadd G dL_law_490 ?_
                            refine hsld dL_law_491 (fun v42 _ => ?_)
                            refine c_aload_n G dL_law_492 rfl 0 rfl ?_
                            refine c_iload_n G dL_law_493 rfl 3 rfl ?_
                            refine c_iconst G (nI 2) dL_law_494 kI_2 ?_
                            refine c_iadd G dL_law_495 ?_
                            refine hsld dL_law_496 (fun v43 _ => ?_)
                            refine c_callV_I (d := 2) (rest := []) G [.int v42, .int v43] yv_X11_visit ml_L_59 (by omega) (by decide) rfl rfl (Nat.le_of_ble_eq_true rfl) lay_x (fun q hq => con_X11_visit lay_x hq) dL_law_497 (fun q21 _ => ?_)
                            refine c_aload_n G dL_law_500 rfl 2 rfl ?_
                            refine c_aload_n G dL_law_501 rfl 0 rfl ?_
                            refine c_iload_n G dL_law_502 rfl 3 rfl ?_
                            refine c_iconst G (nI 1) dL_law_503 kI_1 ?_
                            refine c_iadd G dL_law_504 ?_
                            refine hsld dL_law_505 (fun v44 _ => ?_)
                            refine c_aload_n G dL_law_506 rfl 0 rfl ?_
                            refine c_iload_n G dL_law_507 rfl 3 rfl ?_
                            refine c_iconst G (nI 2) dL_law_508 kI_2 ?_
                            refine c_iadd G dL_law_509 ?_
                            refine hsld dL_law_510 (fun v45 _ => ?_)
                            refine c_callV_I (d := 5) (rest := [.int q21.1]) G [.int v44, .int v45] yv_X12_visit ml_L_62 (by omega) (by decide) rfl rfl (Nat.le_of_ble_eq_true rfl) lay_m (fun q hq => con_X12_visit lay_m hq) dL_law_511 (fun q22 _ => ?_)
                            refine c_icmp_eq (tgt := 967) G dL_law_514 (by decide) (fun _ => ?_) (fun _ => ?_)
                            · skip
                              refine c_iinc G (fun y__ => [(3, .int y__), (0, .ref b), (1, .ref (wB w + pz (1))), (2, .ref (wB w + pz (137)))]) dL_law_967 3 rfl kI_6 (by decide) (fun _ => rfl) (fun l3_12 _ => ?_)
                              refine c_goto (tgt := 18) G dL_law_970 (by decide) ?_
                              exact c_weak _ [1, 2, 3, 0] rfl (ih l3_12 q22.2)
                            · skip
                              refine c_iconst G (nI 0) dL_law_517 kI_0 ?_
                              exact hret dL_law_518
                          · skip
                            refine c_tsw (tgt := 519) G (nI 11) 11 dL_law_33 (by decide +kernel) (by decide +kernel) rfl (by decide) (fun _ => ?_) (fun hn11 => ?_)
                            · skip
                              refine c_aload_n G dL_law_519 rfl 1 rfl ?_
                              refine c_aload_n G dL_law_520 rfl 0 rfl ?_
                              refine c_iload_n G dL_law_521 rfl 3 rfl ?_
                              refine c_iconst G (nI 1) dL_law_522 kI_1 ?_
                              refine c_iadd G dL_law_523 ?_
                              refine hsld dL_law_524 (fun v46 _ => ?_)
                              refine c_callV_I (d := 1) (rest := []) G [.int v46] yv_X11_ordered ml_L_63 (by omega) (by decide) rfl rfl (Nat.le_of_ble_eq_true rfl) lay_x (fun q hq => con_X11_ordered lay_x hq) dL_law_525 (fun q23 _ => ?_)
                              refine c_aload_n G dL_law_528 rfl 2 rfl ?_
                              refine c_aload_n G dL_law_529 rfl 0 rfl ?_
                              refine c_iload_n G dL_law_530 rfl 3 rfl ?_
                              refine c_iconst G (nI 1) dL_law_531 kI_1 ?_
                              refine c_iadd G dL_law_532 ?_
                              refine hsld dL_law_533 (fun v47 _ => ?_)
                              refine c_callV_I (d := 9) (rest := [.int q23.1]) G [.int v47] yv_X12_ordered ml_L_66 (by omega) (by decide) rfl rfl (Nat.le_of_ble_eq_true rfl) lay_m (fun q hq => con_X12_ordered lay_m hq) dL_law_534 (fun q24 _ => ?_)
                              refine c_icmp_eq (tgt := 967) G dL_law_537 (by decide) (fun _ => ?_) (fun _ => ?_)
                              · skip
                                refine c_iinc G (fun y__ => [(3, .int y__), (0, .ref b), (1, .ref (wB w + pz (1))), (2, .ref (wB w + pz (137)))]) dL_law_967 3 rfl kI_6 (by decide) (fun _ => rfl) (fun l3_13 _ => ?_)
                                refine c_goto (tgt := 18) G dL_law_970 (by decide) ?_
                                exact c_weak _ [1, 2, 3, 0] rfl (ih l3_13 q24.2)
                              · skip
                                refine c_iconst G (nI 0) dL_law_540 kI_0 ?_
                                exact hret dL_law_541
                            · skip
                              refine c_tsw (tgt := 542) G (nI 12) 12 dL_law_33 (by decide +kernel) (by decide +kernel) rfl (by decide) (fun _ => ?_) (fun hn12 => ?_)
                              · skip
                                refine c_aload_n G dL_law_542 rfl 1 rfl ?_
                                refine c_aload_n G dL_law_543 rfl 0 rfl ?_
                                refine c_iload_n G dL_law_544 rfl 3 rfl ?_
                                refine c_iconst G (nI 1) dL_law_545 kI_1 ?_
                                refine c_iadd G dL_law_546 ?_
                                refine hsld dL_law_547 (fun v48 _ => ?_)
                                refine c_aload_n G dL_law_548 rfl 0 rfl ?_
                                refine c_iload_n G dL_law_549 rfl 3 rfl ?_
                                refine c_iconst G (nI 2) dL_law_550 kI_2 ?_
                                refine c_iadd G dL_law_551 ?_
                                refine hsld dL_law_552 (fun v49 _ => ?_)
                                refine c_callV_I (d := 1) (rest := []) G [.int v48, .int v49] yv_X11_plan ml_L_67 (by omega) (by decide) rfl rfl (Nat.le_of_ble_eq_true rfl) lay_x (fun q hq => con_X11_plan lay_x hq) dL_law_553 (fun q25 _ => ?_)
                                refine c_aload_n G dL_law_556 rfl 2 rfl ?_
                                refine c_aload_n G dL_law_557 rfl 0 rfl ?_
                                refine c_iload_n G dL_law_558 rfl 3 rfl ?_
                                refine c_iconst G (nI 1) dL_law_559 kI_1 ?_
                                refine c_iadd G dL_law_560 ?_
                                refine hsld dL_law_561 (fun v50 _ => ?_)
                                refine c_aload_n G dL_law_562 rfl 0 rfl ?_
                                refine c_iload_n G dL_law_563 rfl 3 rfl ?_
                                refine c_iconst G (nI 2) dL_law_564 kI_2 ?_
                                refine c_iadd G dL_law_565 ?_
                                refine hsld dL_law_566 (fun v51 _ => ?_)
                                refine c_callV_I (d := 9) (rest := [.int q25.1]) G [.int v50, .int v51] yv_X12_plan ml_L_70 (by omega) (by decide) rfl rfl (Nat.le_of_ble_eq_true rfl) lay_m (fun q hq => con_X12_plan lay_m hq) dL_law_567 (fun q26 _ => ?_)
                                refine c_icmp_eq (tgt := 967) G dL_law_570 (by decide) (fun _ => ?_) (fun _ => ?_)
                                · skip
                                  refine c_iinc G (fun y__ => [(3, .int y__), (0, .ref b), (1, .ref (wB w + pz (1))), (2, .ref (wB w + pz (137)))]) dL_law_967 3 rfl kI_6 (by decide) (fun _ => rfl) (fun l3_14 _ => ?_)
                                  refine c_goto (tgt := 18) G dL_law_970 (by decide) ?_
                                  exact c_weak _ [1, 2, 3, 0] rfl (ih l3_14 q26.2)
                                · skip
                                  refine c_iconst G (nI 0) dL_law_573 kI_0 ?_
                                  exact hret dL_law_574
                              · skip
                                refine c_tsw (tgt := 575) G (nI 13) 13 dL_law_33 (by decide +kernel) (by decide +kernel) rfl (by decide) (fun _ => ?_) (fun hn13 => ?_)
                                · skip
                                  refine c_aload_n G dL_law_575 rfl 1 rfl ?_
                                  refine c_aload_n G dL_law_576 rfl 0 rfl ?_
                                  refine c_iload_n G dL_law_577 rfl 3 rfl ?_
                                  refine c_iconst G (nI 1) dL_law_578 kI_1 ?_
                                  refine c_iadd G dL_law_579 ?_
                                  refine hsld dL_law_580 (fun v52 _ => ?_)
                                  refine c_callV_I (d := 6) (rest := []) G [.int v52] yv_X11_real ml_L_71 (by omega) (by decide) rfl rfl (Nat.le_of_ble_eq_true rfl) lay_x (fun q hq => con_X11_real lay_x hq) dL_law_581 (fun q27 _ => ?_)
                                  refine c_aload_n G dL_law_584 rfl 2 rfl ?_
                                  refine c_aload_n G dL_law_585 rfl 0 rfl ?_
                                  refine c_iload_n G dL_law_586 rfl 3 rfl ?_
                                  refine c_iconst G (nI 1) dL_law_587 kI_1 ?_
                                  refine c_iadd G dL_law_588 ?_
                                  refine hsld dL_law_589 (fun v53 _ => ?_)
                                  refine c_callV_I (d := 11) (rest := [.int q27.1]) G [.int v53] yv_X12_real ml_L_74 (by omega) (by decide) rfl rfl (Nat.le_of_ble_eq_true rfl) lay_m (fun q hq => con_X12_real lay_m hq) dL_law_590 (fun q28 _ => ?_)
                                  refine c_icmp_eq (tgt := 967) G dL_law_593 (by decide) (fun _ => ?_) (fun _ => ?_)
                                  · skip
                                    refine c_iinc G (fun y__ => [(3, .int y__), (0, .ref b), (1, .ref (wB w + pz (1))), (2, .ref (wB w + pz (137)))]) dL_law_967 3 rfl kI_6 (by decide) (fun _ => rfl) (fun l3_15 _ => ?_)
                                    refine c_goto (tgt := 18) G dL_law_970 (by decide) ?_
                                    exact c_weak _ [1, 2, 3, 0] rfl (ih l3_15 q28.2)
                                  · skip
                                    refine c_iconst G (nI 0) dL_law_596 kI_0 ?_
                                    exact hret dL_law_597
                                · skip
                                  refine c_tsw (tgt := 598) G (nI 14) 14 dL_law_33 (by decide +kernel) (by decide +kernel) rfl (by decide) (fun _ => ?_) (fun hn14 => ?_)
                                  · skip
                                    refine c_aload_n G dL_law_598 rfl 1 rfl ?_
                                    refine c_aload_n G dL_law_599 rfl 0 rfl ?_
                                    refine c_iload_n G dL_law_600 rfl 3 rfl ?_
                                    refine c_iconst G (nI 1) dL_law_601 kI_1 ?_
                                    refine c_iadd G dL_law_602 ?_
                                    refine hsld dL_law_603 (fun v54 _ => ?_)
                                    refine c_callV_I (d := 6) (rest := []) G [.int v54] yv_X11_shades ml_L_75 (by omega) (by decide) rfl rfl (Nat.le_of_ble_eq_true rfl) lay_x (fun q hq => con_X11_shades lay_x hq) dL_law_604 (fun q29 _ => ?_)
                                    refine c_aload_n G dL_law_607 rfl 2 rfl ?_
                                    refine c_aload_n G dL_law_608 rfl 0 rfl ?_
                                    refine c_iload_n G dL_law_609 rfl 3 rfl ?_
                                    refine c_iconst G (nI 1) dL_law_610 kI_1 ?_
                                    refine c_iadd G dL_law_611 ?_
                                    refine hsld dL_law_612 (fun v55 _ => ?_)
                                    refine c_callV_I (d := 11) (rest := [.int q29.1]) G [.int v55] yv_X12_shades ml_L_78 (by omega) (by decide) rfl rfl (Nat.le_of_ble_eq_true rfl) lay_m (fun q hq => con_X12_shades lay_m hq) dL_law_613 (fun q30 _ => ?_)
                                    refine c_icmp_eq (tgt := 967) G dL_law_616 (by decide) (fun _ => ?_) (fun _ => ?_)
                                    · skip
                                      refine c_iinc G (fun y__ => [(3, .int y__), (0, .ref b), (1, .ref (wB w + pz (1))), (2, .ref (wB w + pz (137)))]) dL_law_967 3 rfl kI_6 (by decide) (fun _ => rfl) (fun l3_16 _ => ?_)
                                      refine c_goto (tgt := 18) G dL_law_970 (by decide) ?_
                                      exact c_weak _ [1, 2, 3, 0] rfl (ih l3_16 q30.2)
                                    · skip
                                      refine c_iconst G (nI 0) dL_law_619 kI_0 ?_
                                      exact hret dL_law_620
                                  · skip
                                    refine c_tsw (tgt := 621) G (nI 15) 15 dL_law_33 (by decide +kernel) (by decide +kernel) rfl (by decide) (fun _ => ?_) (fun hn15 => ?_)
                                    · skip
                                      refine c_aload_n G dL_law_621 rfl 1 rfl ?_
                                      refine c_aload_n G dL_law_622 rfl 0 rfl ?_
                                      refine c_iload_n G dL_law_623 rfl 3 rfl ?_
                                      refine c_iconst G (nI 1) dL_law_624 kI_1 ?_
                                      refine c_iadd G dL_law_625 ?_
                                      refine hsld dL_law_626 (fun v56 _ => ?_)
                                      refine c_callV_I (d := 6) (rest := []) G [.int v56] yv_X11_tree ml_L_79 (by omega) (by decide) rfl rfl (Nat.le_of_ble_eq_true rfl) lay_x (fun q hq => con_X11_tree lay_x hq) dL_law_627 (fun q31 _ => ?_)
                                      refine c_aload_n G dL_law_630 rfl 2 rfl ?_
                                      refine c_aload_n G dL_law_631 rfl 0 rfl ?_
                                      refine c_iload_n G dL_law_632 rfl 3 rfl ?_
                                      refine c_iconst G (nI 1) dL_law_633 kI_1 ?_
                                      refine c_iadd G dL_law_634 ?_
                                      refine hsld dL_law_635 (fun v57 _ => ?_)
                                      refine c_callV_I (d := 19) (rest := [.int q31.1]) G [.int v57] yv_X12_tree ml_L_82 (by omega) (by decide) rfl rfl (Nat.le_of_ble_eq_true rfl) lay_m (fun q hq => con_X12_tree lay_m hq) dL_law_636 (fun q32 _ => ?_)
                                      refine c_icmp_eq (tgt := 967) G dL_law_639 (by decide) (fun _ => ?_) (fun _ => ?_)
                                      · skip
                                        refine c_iinc G (fun y__ => [(3, .int y__), (0, .ref b), (1, .ref (wB w + pz (1))), (2, .ref (wB w + pz (137)))]) dL_law_967 3 rfl kI_6 (by decide) (fun _ => rfl) (fun l3_17 _ => ?_)
                                        refine c_goto (tgt := 18) G dL_law_970 (by decide) ?_
                                        exact c_weak _ [1, 2, 3, 0] rfl (ih l3_17 q32.2)
                                      · skip
                                        refine c_iconst G (nI 0) dL_law_642 kI_0 ?_
                                        exact hret dL_law_643
                                    · skip
                                      refine c_tsw (tgt := 644) G (nI 16) 16 dL_law_33 (by decide +kernel) (by decide +kernel) rfl (by decide) (fun _ => ?_) (fun hn16 => ?_)
                                      · skip
                                        refine c_aload_n G dL_law_644 rfl 1 rfl ?_
                                        refine c_aload_n G dL_law_645 rfl 0 rfl ?_
                                        refine c_iload_n G dL_law_646 rfl 3 rfl ?_
                                        refine c_iconst G (nI 1) dL_law_647 kI_1 ?_
                                        refine c_iadd G dL_law_648 ?_
                                        refine hsld dL_law_649 (fun v58 _ => ?_)
                                        refine c_aload_n G dL_law_650 rfl 0 rfl ?_
                                        refine c_iload_n G dL_law_651 rfl 3 rfl ?_
                                        refine c_iconst G (nI 2) dL_law_652 kI_2 ?_
                                        refine c_iadd G dL_law_653 ?_
                                        refine hsld dL_law_654 (fun v59 _ => ?_)
                                        refine c_callV_I (d := 1) (rest := []) G [.int v58, .int v59] yv_X11_node ml_L_83 (by omega) (by decide) rfl rfl (Nat.le_of_ble_eq_true rfl) lay_x (fun q hq => con_X11_node lay_x hq) dL_law_655 (fun q33 _ => ?_)
                                        refine c_aload_n G dL_law_658 rfl 2 rfl ?_
                                        refine c_aload_n G dL_law_659 rfl 0 rfl ?_
                                        refine c_iload_n G dL_law_660 rfl 3 rfl ?_
                                        refine c_iconst G (nI 1) dL_law_661 kI_1 ?_
                                        refine c_iadd G dL_law_662 ?_
                                        refine hsld dL_law_663 (fun v60 _ => ?_)
                                        refine c_aload_n G dL_law_664 rfl 0 rfl ?_
                                        refine c_iload_n G dL_law_665 rfl 3 rfl ?_
                                        refine c_iconst G (nI 2) dL_law_666 kI_2 ?_
                                        refine c_iadd G dL_law_667 ?_
                                        refine hsld dL_law_668 (fun v61 _ => ?_)
                                        refine c_callV_I (d := 15) (rest := [.int q33.1]) G [.int v60, .int v61] yv_X12_node ml_L_86 (by omega) (by decide) rfl rfl (Nat.le_of_ble_eq_true rfl) lay_m (fun q hq => con_X12_node lay_m hq) dL_law_669 (fun q34 _ => ?_)
                                        refine c_icmp_eq (tgt := 967) G dL_law_672 (by decide) (fun _ => ?_) (fun _ => ?_)
                                        · skip
                                          refine c_iinc G (fun y__ => [(3, .int y__), (0, .ref b), (1, .ref (wB w + pz (1))), (2, .ref (wB w + pz (137)))]) dL_law_967 3 rfl kI_6 (by decide) (fun _ => rfl) (fun l3_18 _ => ?_)
                                          refine c_goto (tgt := 18) G dL_law_970 (by decide) ?_
                                          exact c_weak _ [1, 2, 3, 0] rfl (ih l3_18 q34.2)
                                        · skip
                                          refine c_iconst G (nI 0) dL_law_675 kI_0 ?_
                                          exact hret dL_law_676
                                      · skip
                                        refine c_tsw (tgt := 677) G (nI 17) 17 dL_law_33 (by decide +kernel) (by decide +kernel) rfl (by decide) (fun _ => ?_) (fun hn17 => ?_)
                                        · skip
                                          refine c_aload_n G dL_law_677 rfl 1 rfl ?_
                                          refine c_aload_n G dL_law_678 rfl 0 rfl ?_
                                          refine c_iload_n G dL_law_679 rfl 3 rfl ?_
                                          refine c_iconst G (nI 1) dL_law_680 kI_1 ?_
                                          refine c_iadd G dL_law_681 ?_
                                          refine hsld dL_law_682 (fun v62 _ => ?_)
                                          refine c_aload_n G dL_law_683 rfl 0 rfl ?_
                                          refine c_iload_n G dL_law_684 rfl 3 rfl ?_
                                          refine c_iconst G (nI 2) dL_law_685 kI_2 ?_
                                          refine c_iadd G dL_law_686 ?_
                                          refine hsld dL_law_687 (fun v63 _ => ?_)
                                          refine c_callV_I (d := 2) (rest := []) G [.int v62, .int v63] yv_X11_value ml_L_87 (by omega) (by decide) rfl rfl (Nat.le_of_ble_eq_true rfl) lay_x (fun q hq => con_X11_value lay_x hq) dL_law_688 (fun q35 _ => ?_)
                                          refine c_aload_n G dL_law_691 rfl 2 rfl ?_
                                          refine c_aload_n G dL_law_692 rfl 0 rfl ?_
                                          refine c_iload_n G dL_law_693 rfl 3 rfl ?_
                                          refine c_iconst G (nI 1) dL_law_694 kI_1 ?_
                                          refine c_iadd G dL_law_695 ?_
                                          refine hsld dL_law_696 (fun v64 _ => ?_)
                                          refine c_aload_n G dL_law_697 rfl 0 rfl ?_
                                          refine c_iload_n G dL_law_698 rfl 3 rfl ?_
                                          refine c_iconst G (nI 2) dL_law_699 kI_2 ?_
                                          refine c_iadd G dL_law_700 ?_
                                          refine hsld dL_law_701 (fun v65 _ => ?_)
                                          refine c_callV_I (d := 3) (rest := [.int q35.1]) G [.int v64, .int v65] yv_X12_value ml_L_90 (by omega) (by decide) rfl rfl (Nat.le_of_ble_eq_true rfl) lay_m (fun q hq => con_X12_value lay_m hq) dL_law_702 (fun q36 _ => ?_)
                                          refine c_icmp_eq (tgt := 967) G dL_law_705 (by decide) (fun _ => ?_) (fun _ => ?_)
                                          · skip
                                            refine c_iinc G (fun y__ => [(3, .int y__), (0, .ref b), (1, .ref (wB w + pz (1))), (2, .ref (wB w + pz (137)))]) dL_law_967 3 rfl kI_6 (by decide) (fun _ => rfl) (fun l3_19 _ => ?_)
                                            refine c_goto (tgt := 18) G dL_law_970 (by decide) ?_
                                            exact c_weak _ [1, 2, 3, 0] rfl (ih l3_19 q36.2)
                                          · skip
                                            refine c_iconst G (nI 0) dL_law_708 kI_0 ?_
                                            exact hret dL_law_709
                                        · skip
                                          refine c_tsw (tgt := 710) G (nI 18) 18 dL_law_33 (by decide +kernel) (by decide +kernel) rfl (by decide) (fun _ => ?_) (fun hn18 => ?_)
                                          · skip
                                            refine c_aload_n G dL_law_710 rfl 1 rfl ?_
                                            refine c_aload_n G dL_law_711 rfl 0 rfl ?_
                                            refine c_iload_n G dL_law_712 rfl 3 rfl ?_
                                            refine c_iconst G (nI 1) dL_law_713 kI_1 ?_
                                            refine c_iadd G dL_law_714 ?_
                                            refine hsld dL_law_715 (fun v66 _ => ?_)
                                            refine c_aload_n G dL_law_716 rfl 0 rfl ?_
                                            refine c_iload_n G dL_law_717 rfl 3 rfl ?_
                                            refine c_iconst G (nI 2) dL_law_718 kI_2 ?_
                                            refine c_iadd G dL_law_719 ?_
                                            refine hsld dL_law_720 (fun v67 _ => ?_)
                                            refine c_aload_n G dL_law_721 rfl 0 rfl ?_
                                            refine c_iload_n G dL_law_722 rfl 3 rfl ?_
                                            refine c_iconst G (nI 3) dL_law_723 kI_3 ?_
                                            refine c_iadd G dL_law_724 ?_
                                            refine hsld dL_law_725 (fun v68 _ => ?_)
                                            refine c_callV_I (d := 2) (rest := []) G [.int v66, .int v67, .int v68] yv_X11_knot ml_L_91 (by omega) (by decide) rfl rfl (Nat.le_of_ble_eq_true rfl) lay_x (fun q hq => con_X11_knot lay_x hq) dL_law_726 (fun q37 _ => ?_)
                                            refine c_aload_n G dL_law_729 rfl 2 rfl ?_
                                            refine c_aload_n G dL_law_730 rfl 0 rfl ?_
                                            refine c_iload_n G dL_law_731 rfl 3 rfl ?_
                                            refine c_iconst G (nI 1) dL_law_732 kI_1 ?_
                                            refine c_iadd G dL_law_733 ?_
                                            refine hsld dL_law_734 (fun v69 _ => ?_)
                                            refine c_aload_n G dL_law_735 rfl 0 rfl ?_
                                            refine c_iload_n G dL_law_736 rfl 3 rfl ?_
                                            refine c_iconst G (nI 2) dL_law_737 kI_2 ?_
                                            refine c_iadd G dL_law_738 ?_
                                            refine hsld dL_law_739 (fun v70 _ => ?_)
                                            refine c_aload_n G dL_law_740 rfl 0 rfl ?_
                                            refine c_iload_n G dL_law_741 rfl 3 rfl ?_
                                            refine c_iconst G (nI 3) dL_law_742 kI_3 ?_
                                            refine c_iadd G dL_law_743 ?_
                                            refine hsld dL_law_744 (fun v71 _ => ?_)
                                            refine c_callV_I (d := 3) (rest := [.int q37.1]) G [.int v69, .int v70, .int v71] yv_X12_knot ml_L_94 (by omega) (by decide) rfl rfl (Nat.le_of_ble_eq_true rfl) lay_m (fun q hq => con_X12_knot lay_m hq) dL_law_745 (fun q38 _ => ?_)
                                            refine c_icmp_eq (tgt := 967) G dL_law_748 (by decide) (fun _ => ?_) (fun _ => ?_)
                                            · skip
                                              refine c_iinc G (fun y__ => [(3, .int y__), (0, .ref b), (1, .ref (wB w + pz (1))), (2, .ref (wB w + pz (137)))]) dL_law_967 3 rfl kI_6 (by decide) (fun _ => rfl) (fun l3_20 _ => ?_)
                                              refine c_goto (tgt := 18) G dL_law_970 (by decide) ?_
                                              exact c_weak _ [1, 2, 3, 0] rfl (ih l3_20 q38.2)
                                            · skip
                                              refine c_iconst G (nI 0) dL_law_751 kI_0 ?_
                                              exact hret dL_law_752
                                          · skip
                                            refine c_tsw (tgt := 753) G (nI 19) 19 dL_law_33 (by decide +kernel) (by decide +kernel) rfl (by decide) (fun _ => ?_) (fun hn19 => ?_)
                                            · skip
                                              refine c_aload_n G dL_law_753 rfl 1 rfl ?_
                                              refine c_aload_n G dL_law_754 rfl 0 rfl ?_
                                              refine c_iload_n G dL_law_755 rfl 3 rfl ?_
                                              refine c_iconst G (nI 1) dL_law_756 kI_1 ?_
                                              refine c_iadd G dL_law_757 ?_
                                              refine hsld dL_law_758 (fun v72 _ => ?_)
                                              refine c_aload_n G dL_law_759 rfl 0 rfl ?_
                                              refine c_iload_n G dL_law_760 rfl 3 rfl ?_
                                              refine c_iconst G (nI 2) dL_law_761 kI_2 ?_
                                              refine c_iadd G dL_law_762 ?_
                                              refine hsld dL_law_763 (fun v73 _ => ?_)
                                              refine c_aload_n G dL_law_764 rfl 0 rfl ?_
                                              refine c_iload_n G dL_law_765 rfl 3 rfl ?_
                                              refine c_iconst G (nI 3) dL_law_766 kI_3 ?_
                                              refine c_iadd G dL_law_767 ?_
                                              refine hsld dL_law_768 (fun v74 _ => ?_)
                                              refine c_callV_I (d := 3) (rest := []) G [.int v72, .int v73, .int v74] yv_X11_span ml_L_95 (by omega) (by decide) rfl rfl (Nat.le_of_ble_eq_true rfl) lay_x (fun q hq => con_X11_span lay_x hq) dL_law_769 (fun q39 _ => ?_)
                                              refine c_aload_n G dL_law_772 rfl 2 rfl ?_
                                              refine c_aload_n G dL_law_773 rfl 0 rfl ?_
                                              refine c_iload_n G dL_law_774 rfl 3 rfl ?_
                                              refine c_iconst G (nI 1) dL_law_775 kI_1 ?_
                                              refine c_iadd G dL_law_776 ?_
                                              refine hsld dL_law_777 (fun v75 _ => ?_)
                                              refine c_aload_n G dL_law_778 rfl 0 rfl ?_
                                              refine c_iload_n G dL_law_779 rfl 3 rfl ?_
                                              refine c_iconst G (nI 2) dL_law_780 kI_2 ?_
                                              refine c_iadd G dL_law_781 ?_
                                              refine hsld dL_law_782 (fun v76 _ => ?_)
                                              refine c_aload_n G dL_law_783 rfl 0 rfl ?_
                                              refine c_iload_n G dL_law_784 rfl 3 rfl ?_
                                              refine c_iconst G (nI 3) dL_law_785 kI_3 ?_
                                              refine c_iadd G dL_law_786 ?_
                                              refine hsld dL_law_787 (fun v77 _ => ?_)
                                              refine c_callV_I (d := 3) (rest := [.int q39.1]) G [.int v75, .int v76, .int v77] yv_X12_span ml_L_98 (by omega) (by decide) rfl rfl (Nat.le_of_ble_eq_true rfl) lay_m (fun q hq => con_X12_span lay_m hq) dL_law_788 (fun q40 _ => ?_)
                                              refine c_icmp_eq (tgt := 967) G dL_law_791 (by decide) (fun _ => ?_) (fun _ => ?_)
                                              · skip
                                                refine c_iinc G (fun y__ => [(3, .int y__), (0, .ref b), (1, .ref (wB w + pz (1))), (2, .ref (wB w + pz (137)))]) dL_law_967 3 rfl kI_6 (by decide) (fun _ => rfl) (fun l3_21 _ => ?_)
                                                refine c_goto (tgt := 18) G dL_law_970 (by decide) ?_
                                                exact c_weak _ [1, 2, 3, 0] rfl (ih l3_21 q40.2)
                                              · skip
                                                refine c_iconst G (nI 0) dL_law_794 kI_0 ?_
                                                exact hret dL_law_795
                                            · skip
                                              refine c_tsw (tgt := 796) G (nI 20) 20 dL_law_33 (by decide +kernel) (by decide +kernel) rfl (by decide) (fun _ => ?_) (fun hn20 => ?_)
                                              · skip
                                                refine c_aload_n G dL_law_796 rfl 1 rfl ?_
                                                refine c_aload_n G dL_law_797 rfl 0 rfl ?_
                                                refine c_iload_n G dL_law_798 rfl 3 rfl ?_
                                                refine c_iconst G (nI 1) dL_law_799 kI_1 ?_
                                                refine c_iadd G dL_law_800 ?_
                                                refine hsld dL_law_801 (fun v78 _ => ?_)
                                                refine c_callV_I (d := 1) (rest := []) G [.int v78] yv_X11_run ml_L_99 (by omega) (by decide) rfl rfl (Nat.le_of_ble_eq_true rfl) lay_x (fun q hq => con_X11_run lay_x hq) dL_law_802 (fun q41 _ => ?_)
                                                refine c_aload_n G dL_law_805 rfl 2 rfl ?_
                                                refine c_aload_n G dL_law_806 rfl 0 rfl ?_
                                                refine c_iload_n G dL_law_807 rfl 3 rfl ?_
                                                refine c_iconst G (nI 1) dL_law_808 kI_1 ?_
                                                refine c_iadd G dL_law_809 ?_
                                                refine hsld dL_law_810 (fun v79 _ => ?_)
                                                refine c_callV_I (d := 9) (rest := [.int q41.1]) G [.int v79] yv_X12_run ml_L_102 (by omega) (by decide) rfl rfl (Nat.le_of_ble_eq_true rfl) lay_m (fun q hq => con_X12_run lay_m hq) dL_law_811 (fun q42 _ => ?_)
                                                refine c_icmp_eq (tgt := 967) G dL_law_814 (by decide) (fun _ => ?_) (fun _ => ?_)
                                                · skip
                                                  refine c_iinc G (fun y__ => [(3, .int y__), (0, .ref b), (1, .ref (wB w + pz (1))), (2, .ref (wB w + pz (137)))]) dL_law_967 3 rfl kI_6 (by decide) (fun _ => rfl) (fun l3_22 _ => ?_)
                                                  refine c_goto (tgt := 18) G dL_law_970 (by decide) ?_
                                                  exact c_weak _ [1, 2, 3, 0] rfl (ih l3_22 q42.2)
                                                · skip
                                                  refine c_iconst G (nI 0) dL_law_817 kI_0 ?_
                                                  exact hret dL_law_818
                                              · skip
                                                refine c_tsw (tgt := 819) G (nI 21) 21 dL_law_33 (by decide +kernel) (by decide +kernel) rfl (by decide) (fun _ => ?_) (fun hn21 => ?_)
                                                · skip
                                                  refine c_aload_n G dL_law_819 rfl 1 rfl ?_
                                                  refine c_callV_I (d := 3) (rest := []) G [] yv_X11_longest ml_L_103 (by omega) (by decide) rfl rfl (Nat.le_of_ble_eq_true rfl) lay_x (fun q hq => con_X11_longest lay_x hq) dL_law_820 (fun q43 _ => ?_)
                                                  refine c_aload_n G dL_law_823 rfl 2 rfl ?_
                                                  refine c_callV_I (d := 1) (rest := [.int q43.1]) G [] yv_X12_longest ml_L_106 (by omega) (by decide) rfl rfl (Nat.le_of_ble_eq_true rfl) lay_m (fun q hq => con_X12_longest lay_m hq) dL_law_824 (fun q44 _ => ?_)
                                                  refine c_icmp_eq (tgt := 967) G dL_law_827 (by decide) (fun _ => ?_) (fun _ => ?_)
                                                  · skip
                                                    refine c_iinc G (fun y__ => [(3, .int y__), (0, .ref b), (1, .ref (wB w + pz (1))), (2, .ref (wB w + pz (137)))]) dL_law_967 3 rfl kI_6 (by decide) (fun _ => rfl) (fun l3_23 _ => ?_)
                                                    refine c_goto (tgt := 18) G dL_law_970 (by decide) ?_
                                                    exact c_weak _ [1, 2, 3, 0] rfl (ih l3_23 q44.2)
                                                  · skip
                                                    refine c_iconst G (nI 0) dL_law_830 kI_0 ?_
                                                    exact hret dL_law_831
                                                · skip
                                                  refine c_tsw (tgt := 832) G (nI 22) 22 dL_law_33 (by decide +kernel) (by decide +kernel) rfl (by decide) (fun _ => ?_) (fun hn22 => ?_)
                                                  · skip
                                                    refine c_aload_n G dL_law_832 rfl 1 rfl ?_
                                                    refine c_aload_n G dL_law_833 rfl 0 rfl ?_
                                                    refine c_iload_n G dL_law_834 rfl 3 rfl ?_
                                                    refine c_iconst G (nI 1) dL_law_835 kI_1 ?_
                                                    refine c_iadd G dL_law_836 ?_
                                                    refine hsld dL_law_837 (fun v80 _ => ?_)
                                                    refine c_aload_n G dL_law_838 rfl 0 rfl ?_
                                                    refine c_iload_n G dL_law_839 rfl 3 rfl ?_
                                                    refine c_iconst G (nI 2) dL_law_840 kI_2 ?_
                                                    refine c_iadd G dL_law_841 ?_
                                                    refine hsld dL_law_842 (fun v81 _ => ?_)
                                                    refine c_callV_I (d := 6) (rest := []) G [.int v80, .int v81] yv_X11_put ml_L_107 (by omega) (by decide) rfl rfl (Nat.le_of_ble_eq_true rfl) lay_x (fun q hq => con_X11_put lay_x hq) dL_law_843 (fun q45 _ => ?_)
                                                    refine c_aload_n G dL_law_846 rfl 2 rfl ?_
                                                    refine c_aload_n G dL_law_847 rfl 0 rfl ?_
                                                    refine c_iload_n G dL_law_848 rfl 3 rfl ?_
                                                    refine c_iconst G (nI 1) dL_law_849 kI_1 ?_
                                                    refine c_iadd G dL_law_850 ?_
                                                    refine hsld dL_law_851 (fun v82 _ => ?_)
                                                    refine c_aload_n G dL_law_852 rfl 0 rfl ?_
                                                    refine c_iload_n G dL_law_853 rfl 3 rfl ?_
                                                    refine c_iconst G (nI 2) dL_law_854 kI_2 ?_
                                                    refine c_iadd G dL_law_855 ?_
                                                    refine hsld dL_law_856 (fun v83 _ => ?_)
                                                    refine c_callV_I (d := 6) (rest := [.int q45.1]) G [.int v82, .int v83] yv_X12_put ml_L_110 (by omega) (by decide) rfl rfl (Nat.le_of_ble_eq_true rfl) lay_m (fun q hq => con_X12_put lay_m hq) dL_law_857 (fun q46 _ => ?_)
                                                    refine c_icmp_eq (tgt := 967) G dL_law_860 (by decide) (fun _ => ?_) (fun _ => ?_)
                                                    · skip
                                                      refine c_iinc G (fun y__ => [(3, .int y__), (0, .ref b), (1, .ref (wB w + pz (1))), (2, .ref (wB w + pz (137)))]) dL_law_967 3 rfl kI_6 (by decide) (fun _ => rfl) (fun l3_24 _ => ?_)
                                                      refine c_goto (tgt := 18) G dL_law_970 (by decide) ?_
                                                      exact c_weak _ [1, 2, 3, 0] rfl (ih l3_24 q46.2)
                                                    · skip
                                                      refine c_iconst G (nI 0) dL_law_863 kI_0 ?_
                                                      exact hret dL_law_864
                                                  · skip
                                                    refine c_tsw (tgt := 865) G (nI 23) 23 dL_law_33 (by decide +kernel) (by decide +kernel) rfl (by decide) (fun _ => ?_) (fun hn23 => ?_)
                                                    · skip
                                                      refine c_aload_n G dL_law_865 rfl 1 rfl ?_
                                                      refine c_aload_n G dL_law_866 rfl 0 rfl ?_
                                                      refine c_iload_n G dL_law_867 rfl 3 rfl ?_
                                                      refine c_iconst G (nI 1) dL_law_868 kI_1 ?_
                                                      refine c_iadd G dL_law_869 ?_
                                                      refine hsld dL_law_870 (fun v84 _ => ?_)
                                                      refine c_aload_n G dL_law_871 rfl 0 rfl ?_
                                                      refine c_iload_n G dL_law_872 rfl 3 rfl ?_
                                                      refine c_iconst G (nI 2) dL_law_873 kI_2 ?_
                                                      refine c_iadd G dL_law_874 ?_
                                                      refine hsld dL_law_875 (fun v85 _ => ?_)
                                                      refine c_callV_I (d := 6) (rest := []) G [.int v84, .int v85] yv_X11_give ml_L_111 (by omega) (by decide) rfl rfl (Nat.le_of_ble_eq_true rfl) lay_x (fun q hq => con_X11_give lay_x hq) dL_law_876 (fun q47 _ => ?_)
                                                      refine c_aload_n G dL_law_879 rfl 2 rfl ?_
                                                      refine c_aload_n G dL_law_880 rfl 0 rfl ?_
                                                      refine c_iload_n G dL_law_881 rfl 3 rfl ?_
                                                      refine c_iconst G (nI 1) dL_law_882 kI_1 ?_
                                                      refine c_iadd G dL_law_883 ?_
                                                      refine hsld dL_law_884 (fun v86 _ => ?_)
                                                      refine c_aload_n G dL_law_885 rfl 0 rfl ?_
                                                      refine c_iload_n G dL_law_886 rfl 3 rfl ?_
                                                      refine c_iconst G (nI 2) dL_law_887 kI_2 ?_
                                                      refine c_iadd G dL_law_888 ?_
                                                      refine hsld dL_law_889 (fun v87 _ => ?_)
                                                      refine c_callV_I (d := 6) (rest := [.int q47.1]) G [.int v86, .int v87] yv_X12_give ml_L_114 (by omega) (by decide) rfl rfl (Nat.le_of_ble_eq_true rfl) lay_m (fun q hq => con_X12_give lay_m hq) dL_law_890 (fun q48 _ => ?_)
                                                      refine c_icmp_eq (tgt := 967) G dL_law_893 (by decide) (fun _ => ?_) (fun _ => ?_)
                                                      · skip
                                                        refine c_iinc G (fun y__ => [(3, .int y__), (0, .ref b), (1, .ref (wB w + pz (1))), (2, .ref (wB w + pz (137)))]) dL_law_967 3 rfl kI_6 (by decide) (fun _ => rfl) (fun l3_25 _ => ?_)
                                                        refine c_goto (tgt := 18) G dL_law_970 (by decide) ?_
                                                        exact c_weak _ [1, 2, 3, 0] rfl (ih l3_25 q48.2)
                                                      · skip
                                                        refine c_iconst G (nI 0) dL_law_896 kI_0 ?_
                                                        exact hret dL_law_897
                                                    · skip
                                                      refine c_tsw (tgt := 898) G (nI 24) 24 dL_law_33 (by decide +kernel) (by decide +kernel) rfl (by decide) (fun _ => ?_) (fun hn24 => ?_)
                                                      · skip
                                                        refine c_aload_n G dL_law_898 rfl 1 rfl ?_
                                                        refine c_aload_n G dL_law_899 rfl 0 rfl ?_
                                                        refine c_iload_n G dL_law_900 rfl 3 rfl ?_
                                                        refine c_iconst G (nI 1) dL_law_901 kI_1 ?_
                                                        refine c_iadd G dL_law_902 ?_
                                                        refine hsld dL_law_903 (fun v88 _ => ?_)
                                                        refine c_aload_n G dL_law_904 rfl 0 rfl ?_
                                                        refine c_iload_n G dL_law_905 rfl 3 rfl ?_
                                                        refine c_iconst G (nI 2) dL_law_906 kI_2 ?_
                                                        refine c_iadd G dL_law_907 ?_
                                                        refine hsld dL_law_908 (fun v89 _ => ?_)
                                                        refine c_callV_I (d := 6) (rest := []) G [.int v88, .int v89] yv_X11_graft ml_L_115 (by omega) (by decide) rfl rfl (Nat.le_of_ble_eq_true rfl) lay_x (fun q hq => con_X11_graft lay_x hq) dL_law_909 (fun q49 _ => ?_)
                                                        refine c_aload_n G dL_law_912 rfl 2 rfl ?_
                                                        refine c_aload_n G dL_law_913 rfl 0 rfl ?_
                                                        refine c_iload_n G dL_law_914 rfl 3 rfl ?_
                                                        refine c_iconst G (nI 1) dL_law_915 kI_1 ?_
                                                        refine c_iadd G dL_law_916 ?_
                                                        refine hsld dL_law_917 (fun v90 _ => ?_)
                                                        refine c_aload_n G dL_law_918 rfl 0 rfl ?_
                                                        refine c_iload_n G dL_law_919 rfl 3 rfl ?_
                                                        refine c_iconst G (nI 2) dL_law_920 kI_2 ?_
                                                        refine c_iadd G dL_law_921 ?_
                                                        refine hsld dL_law_922 (fun v91 _ => ?_)
                                                        refine c_callV_I (d := 19) (rest := [.int q49.1]) G [.int v90, .int v91] yv_X12_graft ml_L_118 (by omega) (by decide) rfl rfl (Nat.le_of_ble_eq_true rfl) lay_m (fun q hq => con_X12_graft lay_m hq) dL_law_923 (fun q50 _ => ?_)
                                                        refine c_icmp_eq (tgt := 967) G dL_law_926 (by decide) (fun _ => ?_) (fun _ => ?_)
                                                        · skip
                                                          refine c_iinc G (fun y__ => [(3, .int y__), (0, .ref b), (1, .ref (wB w + pz (1))), (2, .ref (wB w + pz (137)))]) dL_law_967 3 rfl kI_6 (by decide) (fun _ => rfl) (fun l3_26 _ => ?_)
                                                          refine c_goto (tgt := 18) G dL_law_970 (by decide) ?_
                                                          exact c_weak _ [1, 2, 3, 0] rfl (ih l3_26 q50.2)
                                                        · skip
                                                          refine c_iconst G (nI 0) dL_law_929 kI_0 ?_
                                                          exact hret dL_law_930
                                                      · skip
                                                        refine c_tsw (tgt := 931) G (nI 25) 25 dL_law_33 (by decide +kernel) (by decide +kernel) rfl (by decide) (fun _ => ?_) (fun hn25 => ?_)
                                                        · skip
                                                          refine c_aload_n G dL_law_931 rfl 1 rfl ?_
                                                          refine c_aload_n G dL_law_932 rfl 0 rfl ?_
                                                          refine c_iload_n G dL_law_933 rfl 3 rfl ?_
                                                          refine c_iconst G (nI 1) dL_law_934 kI_1 ?_
                                                          refine c_iadd G dL_law_935 ?_
                                                          refine hsld dL_law_936 (fun v92 _ => ?_)
                                                          refine c_callV_I (d := 1) (rest := []) G [.int v92] yv_X11_anew ml_L_119 (by omega) (by decide) rfl rfl (Nat.le_of_ble_eq_true rfl) lay_x (fun q hq => con_X11_anew lay_x hq) dL_law_937 (fun q51 _ => ?_)
                                                          refine c_aload_n G dL_law_940 rfl 2 rfl ?_
                                                          refine c_aload_n G dL_law_941 rfl 0 rfl ?_
                                                          refine c_iload_n G dL_law_942 rfl 3 rfl ?_
                                                          refine c_iconst G (nI 1) dL_law_943 kI_1 ?_
                                                          refine c_iadd G dL_law_944 ?_
                                                          refine hsld dL_law_945 (fun v93 _ => ?_)
                                                          refine c_callV_I (d := 1) (rest := [.int q51.1]) G [.int v93] yv_X12_anew ml_L_122 (by omega) (by decide) rfl rfl (Nat.le_of_ble_eq_true rfl) lay_m (fun q hq => con_X12_anew lay_m hq) dL_law_946 (fun q52 _ => ?_)
                                                          refine c_icmp_eq (tgt := 967) G dL_law_949 (by decide) (fun _ => ?_) (fun _ => ?_)
                                                          · skip
                                                            refine c_iinc G (fun y__ => [(3, .int y__), (0, .ref b), (1, .ref (wB w + pz (1))), (2, .ref (wB w + pz (137)))]) dL_law_967 3 rfl kI_6 (by decide) (fun _ => rfl) (fun l3_27 _ => ?_)
                                                            refine c_goto (tgt := 18) G dL_law_970 (by decide) ?_
                                                            exact c_weak _ [1, 2, 3, 0] rfl (ih l3_27 q52.2)
                                                          · skip
                                                            refine c_iconst G (nI 0) dL_law_952 kI_0 ?_
                                                            exact hret dL_law_953
                                                        · skip
                                                          refine c_tsw (tgt := 954) G (nI 26) 26 dL_law_33 (by decide +kernel) (by decide +kernel) rfl (by decide) (fun _ => ?_) (fun hn26 => ?_)
                                                          · skip
                                                            refine c_aload_n G dL_law_954 rfl 1 rfl ?_
                                                            refine c_callV_I (d := 1) (rest := []) G [] yv_X11_digest ml_L_123 (by omega) (by decide) rfl rfl (Nat.le_of_ble_eq_true rfl) lay_x (fun q hq => con_X11_digest lay_x hq) dL_law_955 (fun q53 _ => ?_)
                                                            refine c_aload_n G dL_law_958 rfl 2 rfl ?_
                                                            refine c_callV_I (d := 1) (rest := [.int q53.1]) G [] yv_X12_digest ml_L_126 (by omega) (by decide) rfl rfl (Nat.le_of_ble_eq_true rfl) lay_m (fun q hq => con_X12_digest lay_m hq) dL_law_959 (fun q54 _ => ?_)
                                                            refine c_icmp_eq (tgt := 967) G dL_law_962 (by decide) (fun _ => ?_) (fun _ => ?_)
                                                            · skip
                                                              refine c_iinc G (fun y__ => [(3, .int y__), (0, .ref b), (1, .ref (wB w + pz (1))), (2, .ref (wB w + pz (137)))]) dL_law_967 3 rfl kI_6 (by decide) (fun _ => rfl) (fun l3_28 _ => ?_)
                                                              refine c_goto (tgt := 18) G dL_law_970 (by decide) ?_
                                                              exact c_weak _ [1, 2, 3, 0] rfl (ih l3_28 q54.2)
                                                            · skip
                                                              refine c_iconst G (nI 0) dL_law_965 kI_0 ?_
                                                              exact hret dL_law_966
                                                          · skip
                                                            have hm0 := lv_neT hn0 (show (nI 0).toInt = 0 by decide +kernel)
                                                            have hm1 := lv_neT hn1 (show (nI 1).toInt = 1 by decide +kernel)
                                                            have hm2 := lv_neT hn2 (show (nI 2).toInt = 2 by decide +kernel)
                                                            have hm3 := lv_neT hn3 (show (nI 3).toInt = 3 by decide +kernel)
                                                            have hm4 := lv_neT hn4 (show (nI 4).toInt = 4 by decide +kernel)
                                                            have hm5 := lv_neT hn5 (show (nI 5).toInt = 5 by decide +kernel)
                                                            have hm6 := lv_neT hn6 (show (nI 6).toInt = 6 by decide +kernel)
                                                            have hm7 := lv_neT hn7 (show (nI 7).toInt = 7 by decide +kernel)
                                                            have hm8 := lv_neT hn8 (show (nI 8).toInt = 8 by decide +kernel)
                                                            have hm9 := lv_neT hn9 (show (nI 9).toInt = 9 by decide +kernel)
                                                            have hm10 := lv_neT hn10 (show (nI 10).toInt = 10 by decide +kernel)
                                                            have hm11 := lv_neT hn11 (show (nI 11).toInt = 11 by decide +kernel)
                                                            have hm12 := lv_neT hn12 (show (nI 12).toInt = 12 by decide +kernel)
                                                            have hm13 := lv_neT hn13 (show (nI 13).toInt = 13 by decide +kernel)
                                                            have hm14 := lv_neT hn14 (show (nI 14).toInt = 14 by decide +kernel)
                                                            have hm15 := lv_neT hn15 (show (nI 15).toInt = 15 by decide +kernel)
                                                            have hm16 := lv_neT hn16 (show (nI 16).toInt = 16 by decide +kernel)
                                                            have hm17 := lv_neT hn17 (show (nI 17).toInt = 17 by decide +kernel)
                                                            have hm18 := lv_neT hn18 (show (nI 18).toInt = 18 by decide +kernel)
                                                            have hm19 := lv_neT hn19 (show (nI 19).toInt = 19 by decide +kernel)
                                                            have hm20 := lv_neT hn20 (show (nI 20).toInt = 20 by decide +kernel)
                                                            have hm21 := lv_neT hn21 (show (nI 21).toInt = 21 by decide +kernel)
                                                            have hm22 := lv_neT hn22 (show (nI 22).toInt = 22 by decide +kernel)
                                                            have hm23 := lv_neT hn23 (show (nI 23).toInt = 23 by decide +kernel)
                                                            have hm24 := lv_neT hn24 (show (nI 24).toInt = 24 by decide +kernel)
                                                            have hm25 := lv_neT hn25 (show (nI 25).toInt = 25 by decide +kernel)
                                                            have hm26 := lv_neT hn26 (show (nI 26).toInt = 26 by decide +kernel)
                                                            refine c_tswD (tgt := 967) G dL_law_33 (by omega) (by decide) ?_
                                                            refine c_iinc G (fun y__ => [(3, .int y__), (0, .ref b), (1, .ref (wB w + pz (1))), (2, .ref (wB w + pz (137)))]) dL_law_967 3 rfl kI_6 (by decide) (fun _ => rfl) (fun l3_29 _ => ?_)
                                                            refine c_goto (tgt := 18) G dL_law_970 (by decide) ?_
                                                            exact c_weak _ [1, 2, 3, 0] rfl (ih l3_29 M1)
