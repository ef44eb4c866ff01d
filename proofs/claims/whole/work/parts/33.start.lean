theorem cl_L_7 : Cond.classLink RL 7 RX11 ∈ Tg := Tg_in1 18 (by decide +kernel) rfl
theorem is_X11 : Cond.instantiable RX11 17 ∈ Tg := Tg_in1 19 (by decide +kernel) rfl
theorem ii_X11 : Cond.initialized RX11 ∈ Tg := Tg_in1 1 (by decide +kernel) rfl
theorem im_X11 : Cond.instanceMethod yX11_init ∈ Tg := Tg_in1 21 (by decide +kernel) rfl
theorem ico_X11 : Cond.code yX11_init cX11_init 1 none ∈ Tg := Tg_in1 22 (by decide +kernel) rfl
theorem ml_L_9i : Cond.methodLink RL 9 yX11_init ∈ Tg := Tg_in1 20 (by decide +kernel) rfl
theorem cl_L_10 : Cond.classLink RL 10 RX12 ∈ Tg := Tg_in6 194 (by decide +kernel) rfl
theorem is_X12 : Cond.instantiable RX12 75 ∈ Tg := Tg_in6 195 (by decide +kernel) rfl
theorem ii_X12 : Cond.initialized RX12 ∈ Tg := Tg_in1 13 (by decide +kernel) rfl
theorem im_X12 : Cond.instanceMethod yX12_init ∈ Tg := Tg_in6 197 (by decide +kernel) rfl
theorem ico_X12 : Cond.code yX12_init cX12_init 1 none ∈ Tg := Tg_in6 198 (by decide +kernel) rfl
theorem ml_L_12i : Cond.methodLink RL 12 yX12_init ∈ Tg := Tg_in6 196 (by decide +kernel) rfl
def M0 : Mm := (fun a f => if a = 1 then (if f = 0 then nI 0 else if f = 1 then m1 else if f = 2 then m1 else 0) else if a = 137 then (if f = 7 then m1 else if f = 8 then m1 else 0) else 0, fun _ _ => 0, fun a f => if a = 1 then (if f = 11 then 35 else if f = 12 then 52 else if f = 13 then 69 else if f = 14 then 87 else if f = 15 then 105 else if f = 16 then 121 else 0) else 0)
def cells0 (w : Wp) : List va_E := blk_X11 w 1 ++ blk_X12 w 134
theorem ce_1 (w : Wp) : cellE w M0 1 = .inr (11, [.int (nI 0), .int m1, .int m1, .int 0, .ref (wB w + 2), .ref (wB w + 7), .ref (wB w + 8), .ref (wB w + 9), .ref (wB w + 12), .ref (wB w + 21), .ref (wB w + 27), .ref (wB w + 32), .ref (wB w + 49), .ref (wB w + 66), .ref (wB w + 84), .ref (wB w + 102), .ref (wB w + 118)]) := rfl
theorem ce_2 (w : Wp) : cellE w M0 2 = .inr (7, [.ref (wB w + 3), .ref (wB w + 4), .ref (wB w + 5), .ref (wB w + 6), .int 0, .int 0, .int 0, .int 0, .long 0, .int 0, .int 0]) := rfl
theorem ce_3 (w : Wp) : cellE w M0 3 = aB w 1000 := rfl
theorem ce_4 (w : Wp) : cellE w M0 4 = aI w 1001 := rfl
theorem ce_5 (w : Wp) : cellE w M0 5 = aI w 1001 := rfl
theorem ce_6 (w : Wp) : cellE w M0 6 = aJ w 1001 := rfl
theorem ce_7 (w : Wp) : cellE w M0 7 = .inr (2, [.null, .null, .int 0, .int 0, .int 0]) := rfl
theorem ce_8 (w : Wp) : cellE w M0 8 = .inr (9, [.null, .null, .null, .int 0]) := rfl
theorem ce_9 (w : Wp) : cellE w M0 9 = .inr (3, [.ref (wB w + 10), .ref (wB w + 11), .int 0, .int 0]) := rfl
theorem ce_10 (w : Wp) : cellE w M0 10 = aI w 64 := rfl
theorem ce_11 (w : Wp) : cellE w M0 11 = aI w 384 := rfl
theorem ce_15 (w : Wp) : cellE w M0 15 = .inr (5, [.ref (wB w + 13), .ref (wB w + 14), .ref (wB w + 15), .int 0, .ref (wB w + 16), .ref (wB w + 17), .int 0, .ref (wB w + 18), .ref (wB w + 19), .ref (wB w + 20)]) := rfl
theorem ce_16 (w : Wp) : cellE w M0 16 = aI w 8 := rfl
theorem ce_17 (w : Wp) : cellE w M0 17 = aI w 64 := rfl
theorem ce_18 (w : Wp) : cellE w M0 18 = aI w 384 := rfl
theorem ce_19 (w : Wp) : cellE w M0 19 = aI w 432 := rfl
theorem ce_20 (w : Wp) : cellE w M0 20 = aI w 4 := rfl
theorem ce_21 (w : Wp) : cellE w M0 21 = aI w 12 := rfl
theorem ce_22 (w : Wp) : cellE w M0 22 = aI w 12 := rfl
theorem ce_23 (w : Wp) : cellE w M0 23 = aI w 12 := rfl
theorem ce_24 (w : Wp) : cellE w M0 24 = .inr (6, [.ref (wB w + 22), .ref (wB w + 23), .ref (wB w + 24), .ref (wB w + 25), .ref (wB w + 26), .int 0, .int 0, .int 0, .int 0, .int 0, .int 0]) := rfl
theorem ce_25 (w : Wp) : cellE w M0 25 = aI w 96 := rfl
theorem ce_26 (w : Wp) : cellE w M0 26 = aI w 8 := rfl
theorem ce_27 (w : Wp) : cellE w M0 27 = aI w 8 := rfl
theorem ce_28 (w : Wp) : cellE w M0 28 = aI w 32 := rfl
theorem ce_29 (w : Wp) : cellE w M0 29 = aI w 8 := rfl
theorem ce_30 (w : Wp) : cellE w M0 30 = .inr (0, [.ref (wB w + 28), .ref (wB w + 29), .ref (wB w + 30), .ref (wB w + 31), .int 0, .int 0, .int 0, .int 0]) := rfl
theorem ce_31 (w : Wp) : cellE w M0 31 = aZ w 320 := rfl
theorem ce_32 (w : Wp) : cellE w M0 32 = aZ w 320 := rfl
theorem ce_33 (w : Wp) : cellE w M0 33 = aZ w 320 := rfl
theorem ce_34 (w : Wp) : cellE w M0 34 = aI w 40 := rfl
theorem ce_35 (w : Wp) : cellE w M0 35 = .inr (1, [.int 0, .int 0, .int 0, .ref (wB w + 33), .ref (wB w + 34), .ref (wB w + 35), .ref (wB w + 36), .ref (wB w + 37), .ref (wB w + 38), .ref (wB w + 39), .ref (wB w + 40), .ref (wB w + 41), .ref (wB w + 42), .ref (wB w + 43), .ref (wB w + 44), .ref (wB w + 45), .ref (wB w + 46), .ref (wB w + 47), .ref (wB w + 48)]) := rfl
theorem ce_36 (w : Wp) : cellE w M0 36 = aJ w 8 := rfl
theorem ce_37 (w : Wp) : cellE w M0 37 = aJ w 64 := rfl
theorem ce_38 (w : Wp) : cellE w M0 38 = aJ w 12 := rfl
theorem ce_39 (w : Wp) : cellE w M0 39 = aI w 8 := rfl
theorem ce_40 (w : Wp) : cellE w M0 40 = aI w 8 := rfl
theorem ce_41 (w : Wp) : cellE w M0 41 = aI w 12 := rfl
theorem ce_42 (w : Wp) : cellE w M0 42 = aI w 48 := rfl
theorem ce_43 (w : Wp) : cellE w M0 43 = aI w 12 := rfl
theorem ce_44 (w : Wp) : cellE w M0 44 = aI w 12 := rfl
theorem ce_45 (w : Wp) : cellE w M0 45 = aI w 12 := rfl
theorem ce_46 (w : Wp) : cellE w M0 46 = aI w 12 := rfl
theorem ce_47 (w : Wp) : cellE w M0 47 = aI w 384 := rfl
theorem ce_48 (w : Wp) : cellE w M0 48 = aI w 384 := rfl
theorem ce_49 (w : Wp) : cellE w M0 49 = aI w 384 := rfl
theorem ce_50 (w : Wp) : cellE w M0 50 = aI w 384 := rfl
theorem ce_51 (w : Wp) : cellE w M0 51 = aI w 1000 := rfl
theorem ce_52 (w : Wp) : cellE w M0 52 = .inr (1, [.int 0, .int 0, .int 0, .ref (wB w + 50), .ref (wB w + 51), .ref (wB w + 52), .ref (wB w + 53), .ref (wB w + 54), .ref (wB w + 55), .ref (wB w + 56), .ref (wB w + 57), .ref (wB w + 58), .ref (wB w + 59), .ref (wB w + 60), .ref (wB w + 61), .ref (wB w + 62), .ref (wB w + 63), .ref (wB w + 64), .ref (wB w + 65)]) := rfl
theorem ce_53 (w : Wp) : cellE w M0 53 = aJ w 8 := rfl
theorem ce_54 (w : Wp) : cellE w M0 54 = aJ w 64 := rfl
theorem ce_55 (w : Wp) : cellE w M0 55 = aJ w 12 := rfl
theorem ce_56 (w : Wp) : cellE w M0 56 = aI w 8 := rfl
theorem ce_57 (w : Wp) : cellE w M0 57 = aI w 8 := rfl
theorem ce_58 (w : Wp) : cellE w M0 58 = aI w 12 := rfl
theorem ce_59 (w : Wp) : cellE w M0 59 = aI w 48 := rfl
theorem ce_60 (w : Wp) : cellE w M0 60 = aI w 12 := rfl
theorem ce_61 (w : Wp) : cellE w M0 61 = aI w 12 := rfl
theorem ce_62 (w : Wp) : cellE w M0 62 = aI w 12 := rfl
theorem ce_63 (w : Wp) : cellE w M0 63 = aI w 12 := rfl
theorem ce_64 (w : Wp) : cellE w M0 64 = aI w 384 := rfl
theorem ce_65 (w : Wp) : cellE w M0 65 = aI w 384 := rfl
theorem ce_66 (w : Wp) : cellE w M0 66 = aI w 384 := rfl
theorem ce_67 (w : Wp) : cellE w M0 67 = aI w 384 := rfl
theorem ce_68 (w : Wp) : cellE w M0 68 = aI w 1000 := rfl
theorem ce_69 (w : Wp) : cellE w M0 69 = .inr (8, [.int 0, .ref (wB w + 67), .ref (wB w + 68), .ref (wB w + 69), .ref (wB w + 70), .ref (wB w + 71), .ref (wB w + 72), .ref (wB w + 73), .ref (wB w + 74), .ref (wB w + 75), .ref (wB w + 76), .ref (wB w + 77), .ref (wB w + 78), .ref (wB w + 79), .ref (wB w + 80), .ref (wB w + 81), .ref (wB w + 82), .ref (wB w + 83), .int 0]) := rfl
theorem ce_70 (w : Wp) : cellE w M0 70 = aI w 40 := rfl
theorem ce_71 (w : Wp) : cellE w M0 71 = aI w 40 := rfl
theorem ce_72 (w : Wp) : cellE w M0 72 = aI w 40 := rfl
theorem ce_73 (w : Wp) : cellE w M0 73 = aI w 40 := rfl
theorem ce_74 (w : Wp) : cellE w M0 74 = aI w 40 := rfl
theorem ce_75 (w : Wp) : cellE w M0 75 = aI w 40 := rfl
theorem ce_76 (w : Wp) : cellE w M0 76 = aI w 40 := rfl
theorem ce_77 (w : Wp) : cellE w M0 77 = aI w 40 := rfl
theorem ce_78 (w : Wp) : cellE w M0 78 = aI w 40 := rfl
theorem ce_79 (w : Wp) : cellE w M0 79 = aI w 40 := rfl
theorem ce_80 (w : Wp) : cellE w M0 80 = aI w 160 := rfl
theorem ce_81 (w : Wp) : cellE w M0 81 = aI w 4 := rfl
theorem ce_82 (w : Wp) : cellE w M0 82 = aI w 320 := rfl
theorem ce_83 (w : Wp) : cellE w M0 83 = aI w 320 := rfl
theorem ce_84 (w : Wp) : cellE w M0 84 = aI w 320 := rfl
theorem ce_85 (w : Wp) : cellE w M0 85 = aZ w 320 := rfl
theorem ce_86 (w : Wp) : cellE w M0 86 = aI w 320 := rfl
theorem ce_87 (w : Wp) : cellE w M0 87 = .inr (8, [.int 0, .ref (wB w + 85), .ref (wB w + 86), .ref (wB w + 87), .ref (wB w + 88), .ref (wB w + 89), .ref (wB w + 90), .ref (wB w + 91), .ref (wB w + 92), .ref (wB w + 93), .ref (wB w + 94), .ref (wB w + 95), .ref (wB w + 96), .ref (wB w + 97), .ref (wB w + 98), .ref (wB w + 99), .ref (wB w + 100), .ref (wB w + 101), .int 0]) := rfl
theorem ce_88 (w : Wp) : cellE w M0 88 = aI w 40 := rfl
theorem ce_89 (w : Wp) : cellE w M0 89 = aI w 40 := rfl
theorem ce_90 (w : Wp) : cellE w M0 90 = aI w 40 := rfl
theorem ce_91 (w : Wp) : cellE w M0 91 = aI w 40 := rfl
theorem ce_92 (w : Wp) : cellE w M0 92 = aI w 40 := rfl
theorem ce_93 (w : Wp) : cellE w M0 93 = aI w 40 := rfl
theorem ce_94 (w : Wp) : cellE w M0 94 = aI w 40 := rfl
theorem ce_95 (w : Wp) : cellE w M0 95 = aI w 40 := rfl
theorem ce_96 (w : Wp) : cellE w M0 96 = aI w 40 := rfl
theorem ce_97 (w : Wp) : cellE w M0 97 = aI w 40 := rfl
theorem ce_98 (w : Wp) : cellE w M0 98 = aI w 160 := rfl
theorem ce_99 (w : Wp) : cellE w M0 99 = aI w 4 := rfl
theorem ce_100 (w : Wp) : cellE w M0 100 = aI w 320 := rfl
theorem ce_101 (w : Wp) : cellE w M0 101 = aI w 320 := rfl
theorem ce_102 (w : Wp) : cellE w M0 102 = aI w 320 := rfl
theorem ce_103 (w : Wp) : cellE w M0 103 = aZ w 320 := rfl
theorem ce_104 (w : Wp) : cellE w M0 104 = aI w 320 := rfl
theorem ce_105 (w : Wp) : cellE w M0 105 = .inr (10, [.ref (wB w + 103), .ref (wB w + 114), .ref (wB w + 115), .ref (wB w + 116), .ref (wB w + 117), .null, .null]) := rfl
theorem ce_106 (w : Wp) : cellE w M0 106 = .inr (4, [.ref (wB w + 104), .ref (wB w + 105), .ref (wB w + 106), .ref (wB w + 107), .int 0, .int 0, .null, .ref (wB w + 108), .ref (wB w + 109), .ref (wB w + 110), .int 0, .ref (wB w + 111), .ref (wB w + 112), .int 0, .int 0, .ref (wB w + 113)]) := rfl
theorem ce_107 (w : Wp) : cellE w M0 107 = aI w 320 := rfl
theorem ce_108 (w : Wp) : cellE w M0 108 = aI w 321 := rfl
theorem ce_109 (w : Wp) : cellE w M0 109 = aI w 320 := rfl
theorem ce_110 (w : Wp) : cellE w M0 110 = aZ w 320 := rfl
theorem ce_111 (w : Wp) : cellE w M0 111 = aI w 320 := rfl
theorem ce_112 (w : Wp) : cellE w M0 112 = aI w 320 := rfl
theorem ce_113 (w : Wp) : cellE w M0 113 = aI w 320 := rfl
theorem ce_114 (w : Wp) : cellE w M0 114 = aI w 320 := rfl
theorem ce_115 (w : Wp) : cellE w M0 115 = aI w 320 := rfl
theorem ce_116 (w : Wp) : cellE w M0 116 = aI w 320 := rfl
theorem ce_117 (w : Wp) : cellE w M0 117 = aI w 320 := rfl
theorem ce_118 (w : Wp) : cellE w M0 118 = aI w 320 := rfl
theorem ce_119 (w : Wp) : cellE w M0 119 = aZ w 320 := rfl
theorem ce_120 (w : Wp) : cellE w M0 120 = aI w 20 := rfl
theorem ce_121 (w : Wp) : cellE w M0 121 = .inr (10, [.ref (wB w + 119), .ref (wB w + 130), .ref (wB w + 131), .ref (wB w + 132), .ref (wB w + 133), .null, .null]) := rfl
theorem ce_122 (w : Wp) : cellE w M0 122 = .inr (4, [.ref (wB w + 120), .ref (wB w + 121), .ref (wB w + 122), .ref (wB w + 123), .int 0, .int 0, .null, .ref (wB w + 124), .ref (wB w + 125), .ref (wB w + 126), .int 0, .ref (wB w + 127), .ref (wB w + 128), .int 0, .int 0, .ref (wB w + 129)]) := rfl
theorem ce_123 (w : Wp) : cellE w M0 123 = aI w 320 := rfl
theorem ce_124 (w : Wp) : cellE w M0 124 = aI w 321 := rfl
theorem ce_125 (w : Wp) : cellE w M0 125 = aI w 320 := rfl
theorem ce_126 (w : Wp) : cellE w M0 126 = aZ w 320 := rfl
theorem ce_127 (w : Wp) : cellE w M0 127 = aI w 320 := rfl
theorem ce_128 (w : Wp) : cellE w M0 128 = aI w 320 := rfl
theorem ce_129 (w : Wp) : cellE w M0 129 = aI w 320 := rfl
theorem ce_130 (w : Wp) : cellE w M0 130 = aI w 320 := rfl
theorem ce_131 (w : Wp) : cellE w M0 131 = aI w 320 := rfl
theorem ce_132 (w : Wp) : cellE w M0 132 = aI w 320 := rfl
theorem ce_133 (w : Wp) : cellE w M0 133 = aI w 320 := rfl
theorem ce_134 (w : Wp) : cellE w M0 134 = aI w 320 := rfl
theorem ce_135 (w : Wp) : cellE w M0 135 = aZ w 320 := rfl
theorem ce_136 (w : Wp) : cellE w M0 136 = aI w 20 := rfl
theorem ce_137 (w : Wp) : cellE w M0 137 = .inr (12, [.ref (wB w + 135), .ref (wB w + 136), .ref (wB w + 137), .ref (wB w + 138), .ref (wB w + 139), .int 0, .int 0, .int m1, .int m1, .int 0, .int 0, .int 0, .int 0, .int 0, .int 0, .int 0, .int 0, .int 0, .long 0, .int 0, .int 0, .int 0, .ref (wB w + 140), .ref (wB w + 141), .ref (wB w + 142), .ref (wB w + 143), .ref (wB w + 144), .int 0, .ref (wB w + 145), .ref (wB w + 146), .ref (wB w + 147), .int 0, .ref (wB w + 148), .int 0, .ref (wB w + 149), .ref (wB w + 150), .ref (wB w + 151), .ref (wB w + 152), .ref (wB w + 153), .int 0, .int 0, .int 0, .int 0, .ref (wB w + 154), .ref (wB w + 155), .ref (wB w + 156), .ref (wB w + 157), .ref (wB w + 158), .ref (wB w + 159), .ref (wB w + 160), .int 0, .int 0, .int 0, .int 0, .int 0, .int 0, .ref (wB w + 161), .ref (wB w + 162), .ref (wB w + 163), .ref (wB w + 164), .ref (wB w + 165), .ref (wB w + 166), .ref (wB w + 167), .ref (wB w + 168), .ref (wB w + 169), .ref (wB w + 170), .ref (wB w + 171), .ref (wB w + 172), .ref (wB w + 173), .ref (wB w + 174), .ref (wB w + 175), .ref (wB w + 176), .int 0, .ref (wB w + 177), .ref (wB w + 178)]) := rfl
theorem ce_138 (w : Wp) : cellE w M0 138 = aI w 1000 := rfl
theorem ce_139 (w : Wp) : cellE w M0 139 = aI w 3816 := rfl
theorem ce_140 (w : Wp) : cellE w M0 140 = aI w 3816 := rfl
theorem ce_141 (w : Wp) : cellE w M0 141 = aJ w 84 := rfl
theorem ce_142 (w : Wp) : cellE w M0 142 = aJ w 84 := rfl
theorem ce_143 (w : Wp) : cellE w M0 143 = aI w 64 := rfl
theorem ce_144 (w : Wp) : cellE w M0 144 = aI w 32 := rfl
theorem ce_145 (w : Wp) : cellE w M0 145 = aI w 32 := rfl
theorem ce_146 (w : Wp) : cellE w M0 146 = aI w 32 := rfl
theorem ce_147 (w : Wp) : cellE w M0 147 = aI w 32 := rfl
theorem ce_148 (w : Wp) : cellE w M0 148 = aI w 8 := rfl
theorem ce_149 (w : Wp) : cellE w M0 149 = aI w 64 := rfl
theorem ce_150 (w : Wp) : cellE w M0 150 = aI w 8 := rfl
theorem ce_151 (w : Wp) : cellE w M0 151 = aI w 100 := rfl
theorem ce_152 (w : Wp) : cellE w M0 152 = aI w 4 := rfl
theorem ce_153 (w : Wp) : cellE w M0 153 = aI w 112 := rfl
theorem ce_154 (w : Wp) : cellE w M0 154 = aI w 8 := rfl
theorem ce_155 (w : Wp) : cellE w M0 155 = aI w 8 := rfl
theorem ce_156 (w : Wp) : cellE w M0 156 = aI w 4 := rfl
theorem ce_157 (w : Wp) : cellE w M0 157 = aI w 40 := rfl
theorem ce_158 (w : Wp) : cellE w M0 158 = aI w 40 := rfl
theorem ce_159 (w : Wp) : cellE w M0 159 = aI w 40 := rfl
theorem ce_160 (w : Wp) : cellE w M0 160 = aI w 40 := rfl
theorem ce_161 (w : Wp) : cellE w M0 161 = aI w 40 := rfl
theorem ce_162 (w : Wp) : cellE w M0 162 = aI w 40 := rfl
theorem ce_163 (w : Wp) : cellE w M0 163 = aI w 4 := rfl
theorem ce_164 (w : Wp) : cellE w M0 164 = aI w 320 := rfl
theorem ce_165 (w : Wp) : cellE w M0 165 = aI w 320 := rfl
theorem ce_166 (w : Wp) : cellE w M0 166 = aI w 320 := rfl
theorem ce_167 (w : Wp) : cellE w M0 167 = aI w 320 := rfl
theorem ce_168 (w : Wp) : cellE w M0 168 = aI w 320 := rfl
theorem ce_169 (w : Wp) : cellE w M0 169 = aI w 320 := rfl
theorem ce_170 (w : Wp) : cellE w M0 170 = aI w 320 := rfl
theorem ce_171 (w : Wp) : cellE w M0 171 = aI w 320 := rfl
theorem ce_172 (w : Wp) : cellE w M0 172 = aI w 3200 := rfl
theorem ce_173 (w : Wp) : cellE w M0 173 = aI w 3200 := rfl
theorem ce_174 (w : Wp) : cellE w M0 174 = aZ w 320 := rfl
theorem ce_175 (w : Wp) : cellE w M0 175 = aZ w 320 := rfl
theorem ce_176 (w : Wp) : cellE w M0 176 = aZ w 320 := rfl
theorem ce_177 (w : Wp) : cellE w M0 177 = aZ w 320 := rfl
theorem ce_178 (w : Wp) : cellE w M0 178 = aZ w 320 := rfl
theorem ce_179 (w : Wp) : cellE w M0 179 = aZ w 320 := rfl
theorem ce_180 (w : Wp) : cellE w M0 180 = aI w 64 := rfl
theorem ce_181 (w : Wp) : cellE w M0 181 = aI w 320 := rfl

theorem cells0_len (w : Wp) : (cells0 w).length = 178 := by unfold cells0; rw [List.length_append, blk_X11_len, blk_X12_len]
set_option maxRecDepth 100000 in
set_option maxHeartbeats 4000000 in
theorem cells0_eq (w : Wp) : cells0 w = (List.range 178).map (fun k => cellE w M0 (vi (k + 1))) := by
  have e : (List.range 178).map (fun k => cellE w M0 (vi (k + 1))) = [cellE w M0 1, cellE w M0 2, cellE w M0 3, cellE w M0 4, cellE w M0 5, cellE w M0 6, cellE w M0 7, cellE w M0 8, cellE w M0 9, cellE w M0 10, cellE w M0 11, cellE w M0 15, cellE w M0 16, cellE w M0 17, cellE w M0 18, cellE w M0 19, cellE w M0 20, cellE w M0 21, cellE w M0 22, cellE w M0 23, cellE w M0 24, cellE w M0 25, cellE w M0 26, cellE w M0 27, cellE w M0 28, cellE w M0 29, cellE w M0 30, cellE w M0 31, cellE w M0 32, cellE w M0 33, cellE w M0 34, cellE w M0 35, cellE w M0 36, cellE w M0 37, cellE w M0 38, cellE w M0 39, cellE w M0 40, cellE w M0 41, cellE w M0 42, cellE w M0 43, cellE w M0 44, cellE w M0 45, cellE w M0 46, cellE w M0 47, cellE w M0 48, cellE w M0 49, cellE w M0 50, cellE w M0 51, cellE w M0 52, cellE w M0 53, cellE w M0 54, cellE w M0 55, cellE w M0 56, cellE w M0 57, cellE w M0 58, cellE w M0 59, cellE w M0 60, cellE w M0 61, cellE w M0 62, cellE w M0 63, cellE w M0 64, cellE w M0 65, cellE w M0 66, cellE w M0 67, cellE w M0 68, cellE w M0 69, cellE w M0 70, cellE w M0 71, cellE w M0 72, cellE w M0 73, cellE w M0 74, cellE w M0 75, cellE w M0 76, cellE w M0 77, cellE w M0 78, cellE w M0 79, cellE w M0 80, cellE w M0 81, cellE w M0 82, cellE w M0 83, cellE w M0 84, cellE w M0 85, cellE w M0 86, cellE w M0 87, cellE w M0 88, cellE w M0 89, cellE w M0 90, cellE w M0 91, cellE w M0 92, cellE w M0 93, cellE w M0 94, cellE w M0 95, cellE w M0 96, cellE w M0 97, cellE w M0 98, cellE w M0 99, cellE w M0 100, cellE w M0 101, cellE w M0 102, cellE w M0 103, cellE w M0 104, cellE w M0 105, cellE w M0 106, cellE w M0 107, cellE w M0 108, cellE w M0 109, cellE w M0 110, cellE w M0 111, cellE w M0 112, cellE w M0 113, cellE w M0 114, cellE w M0 115, cellE w M0 116, cellE w M0 117, cellE w M0 118, cellE w M0 119, cellE w M0 120, cellE w M0 121, cellE w M0 122, cellE w M0 123, cellE w M0 124, cellE w M0 125, cellE w M0 126, cellE w M0 127, cellE w M0 128, cellE w M0 129, cellE w M0 130, cellE w M0 131, cellE w M0 132, cellE w M0 133, cellE w M0 134, cellE w M0 135, cellE w M0 136, cellE w M0 137, cellE w M0 138, cellE w M0 139, cellE w M0 140, cellE w M0 141, cellE w M0 142, cellE w M0 143, cellE w M0 144, cellE w M0 145, cellE w M0 146, cellE w M0 147, cellE w M0 148, cellE w M0 149, cellE w M0 150, cellE w M0 151, cellE w M0 152, cellE w M0 153, cellE w M0 154, cellE w M0 155, cellE w M0 156, cellE w M0 157, cellE w M0 158, cellE w M0 159, cellE w M0 160, cellE w M0 161, cellE w M0 162, cellE w M0 163, cellE w M0 164, cellE w M0 165, cellE w M0 166, cellE w M0 167, cellE w M0 168, cellE w M0 169, cellE w M0 170, cellE w M0 171, cellE w M0 172, cellE w M0 173, cellE w M0 174, cellE w M0 175, cellE w M0 176, cellE w M0 177, cellE w M0 178, cellE w M0 179, cellE w M0 180, cellE w M0 181] := rfl
  rw [e]
  simp only [ce_1, ce_2, ce_3, ce_4, ce_5, ce_6, ce_7, ce_8, ce_9, ce_10, ce_11, ce_15, ce_16, ce_17, ce_18, ce_19, ce_20, ce_21, ce_22, ce_23, ce_24, ce_25, ce_26, ce_27, ce_28, ce_29, ce_30, ce_31, ce_32, ce_33, ce_34, ce_35, ce_36, ce_37, ce_38, ce_39, ce_40, ce_41, ce_42, ce_43, ce_44, ce_45, ce_46, ce_47, ce_48, ce_49, ce_50, ce_51, ce_52, ce_53, ce_54, ce_55, ce_56, ce_57, ce_58, ce_59, ce_60, ce_61, ce_62, ce_63, ce_64, ce_65, ce_66, ce_67, ce_68, ce_69, ce_70, ce_71, ce_72, ce_73, ce_74, ce_75, ce_76, ce_77, ce_78, ce_79, ce_80, ce_81, ce_82, ce_83, ce_84, ce_85, ce_86, ce_87, ce_88, ce_89, ce_90, ce_91, ce_92, ce_93, ce_94, ce_95, ce_96, ce_97, ce_98, ce_99, ce_100, ce_101, ce_102, ce_103, ce_104, ce_105, ce_106, ce_107, ce_108, ce_109, ce_110, ce_111, ce_112, ce_113, ce_114, ce_115, ce_116, ce_117, ce_118, ce_119, ce_120, ce_121, ce_122, ce_123, ce_124, ce_125, ce_126, ce_127, ce_128, ce_129, ce_130, ce_131, ce_132, ce_133, ce_134, ce_135, ce_136, ce_137, ce_138, ce_139, ce_140, ce_141, ce_142, ce_143, ce_144, ce_145, ce_146, ce_147, ce_148, ce_149, ce_150, ce_151, ce_152, ce_153, ce_154, ce_155, ce_156, ce_157, ce_158, ce_159, ce_160, ce_161, ce_162, ce_163, ce_164, ce_165, ce_166, ce_167, ce_168, ce_169, ce_170, ce_171, ce_172, ce_173, ce_174, ce_175, ce_176, ce_177, ce_178, ce_179, ce_180, ce_181]
  rfl
theorem wsx_wsl (w : Wp) : wsx (wB w) (cells0 w) = wsl w M0 := by
  unfold wsx wsl
  rw [cells0_len]
  refine List.map_congr_left fun k hk => ?_
  have hk' := List.mem_range.mp hk
  rw [cells0_eq, List.getD_eq_getElem?_getD, List.getElem?_map, List.getElem?_range hk']
  rfl
theorem c_lawret {w : Wp} {p : Program} {e : Env} {s : State} {m : MethodId} {b : Nat} {below : List Frame} {meth : Method} {c : Code} {ck sk : Nat} {ρ : Int32 × Mm} (hρ : ρ.1 = 1) (hck : ck ≤ 600000) (hsk : sk ≤ 7302249) (hB : wB w + 1 = s.heap.size) (hlocks : meth.locks = false)
    (G : Good w (p, e, room_1, s, m, #[Value.ref b], below, meth, c, ck, sk) cL_law 4 RL (some .boolean) 1000) {pc : Nat} {env : List (Nat × Value)} {v : Int32} {M : Mm} (hdg : decode cL_law pc = .ok (.ireturn, 1)) : Cov w (p, e, room_1, s, m, #[Value.ref b], below, meth, c, ck, sk) (lw_Z below #[Value.ref b] s) ρ some 4 pc env [.int v] M (retZ v M) := by
  intro h H locs ls hP hS hl
  unfold retZ at h
  cases hz : okZ v with
  | none => rw [hz] at h; cases h
  | some v' =>
    rw [hz] at h
    obtain ⟨rfl, hx⟩ := okZ_some hz
    have e1 : (v', M) = ρ := Option.some.inj h
    have e2 : v' = 1 := by rw [← hρ, ← e1]
    subst e2
    refine va_forget (fun q hq => ?_) ?_
    · have h9 : wB w < q.base := hS.2.2 q hq
      show s.heap.size ≤ q.base
      omega
    · exact W.widen hck hsk (lw_ret G.1 G.2.1 G.2.2.2.2.2.2.1 hlocks hdg)
theorem nest_tbl : ∀ q ∈ nestL, q ∈ lw_tbl := by
  have h : nestL = [186, 236, 258, 277, 302, 346, 391, 425, 526, 621, 627, 1427, 1465].filterMap (fun i => lw_tbl[i]?) := by decide +kernel
  intro q hq
  rw [h] at hq
  obtain ⟨i, -, hi⟩ := List.mem_filterMap.mp hq
  exact List.mem_of_getElem? hi
set_option maxRecDepth 100000 in
set_option maxHeartbeats 4000000 in
/-- the law's body out of what D_ says of it -/
theorem whole_start_open {p : Program} {e : Env} {s : State} {m : MethodId} {below : List Frame} {meth : Method} {c : Code} (l : Launch) {b L : Nat} {xs : Nat → Int32} (C0 : lw_At p s m meth c b L xs) (hp : ∃ (N : Nat) (ρ : Int32 × Mm), ρ.1 = 1 ∧ L_L_law_18 L xs N N (nI 0) M0 = some ρ) : W p l e room_1 s m #[Value.ref b] below meth c s.heap [] 0 0 (lw_Z below #[Value.ref b] s) (entryFrame m ([Value.ref b] : List Value).toArray 4) := by
  obtain ⟨hx, hb, hr, hml, hown, hts, hXs, hbl, hlocks, hgv⟩ := C0
  obtain ⟨N, ρ, hρ, hD⟩ := hp
  have htg : ∀ q ∈ Tg, q.before #[Value.ref b] s = true := fun q hq => hts q (Tg_tbl hq)
  have hti : ∀ (i : Nat) (q : Cond), lw_tbl[i]? = some q → q.before #[Value.ref b] s = true := fun i q h => hts q (List.mem_of_getElem? h)
  obtain ⟨c0, i0, kn0⟩ := u_known (C := RX0) (T := TX0) (N := 8) (n := 8) htg inX0 (hti _ _ (by decide +kernel : lw_tbl[390]? = some (Cond.instantiable RX0 8)))
  obtain ⟨c1, i1, kn1⟩ := u_known (C := RX1) (T := TX1) (N := 19) (n := 19) htg inX1 (hti _ _ (by decide +kernel : lw_tbl[424]? = some (Cond.instantiable RX1 19)))
  obtain ⟨c2, i2, kn2⟩ := u_known (C := RX2) (T := TX2) (N := 5) (n := 5) htg inX2 (hti _ _ (by decide +kernel : lw_tbl[235]? = some (Cond.instantiable RX2 5)))
  obtain ⟨c3, i3, kn3⟩ := u_known (C := RX3) (T := TX3) (N := 4) (n := 4) htg inX3 (hti _ _ (by decide +kernel : lw_tbl[276]? = some (Cond.instantiable RX3 4)))
  obtain ⟨c4, i4, kn4⟩ := u_known (C := RX4) (T := TX4) (N := 16) (n := 16) htg inX4 (hti _ _ (by decide +kernel : lw_tbl[626]? = some (Cond.instantiable RX4 16)))
  obtain ⟨c5, i5, kn5⟩ := u_known (C := RX5) (T := TX5) (N := 10) (n := 10) htg inX5 (hti _ _ (by decide +kernel : lw_tbl[301]? = some (Cond.instantiable RX5 10)))
  obtain ⟨c6, i6, kn6⟩ := u_known (C := RX6) (T := TX6) (N := 11) (n := 11) htg inX6 (hti _ _ (by decide +kernel : lw_tbl[345]? = some (Cond.instantiable RX6 11)))
  obtain ⟨c7, i7, kn7⟩ := u_known (C := RX7) (T := TX7) (N := 11) (n := 11) htg inX7 (hti _ _ (by decide +kernel : lw_tbl[185]? = some (Cond.instantiable RX7 11)))
  obtain ⟨c8, i8, kn8⟩ := u_known (C := RX8) (T := TX8) (N := 19) (n := 19) htg inX8 (hti _ _ (by decide +kernel : lw_tbl[525]? = some (Cond.instantiable RX8 19)))
  obtain ⟨c9, i9, kn9⟩ := u_known (C := RX9) (T := TX9) (N := 4) (n := 4) htg inX9 (hti _ _ (by decide +kernel : lw_tbl[257]? = some (Cond.instantiable RX9 4)))
  obtain ⟨c10, i10, kn10⟩ := u_known (C := RX10) (T := TX10) (N := 7) (n := 7) htg inX10 (hti _ _ (by decide +kernel : lw_tbl[620]? = some (Cond.instantiable RX10 7)))
  obtain ⟨c11, i11, kn11⟩ := u_known (C := RX11) (T := TX11) (N := 17) (n := 17) htg inX11 (hti _ _ (by decide +kernel : lw_tbl[177]? = some (Cond.instantiable RX11 17)))
  obtain ⟨c12, i12, kn12⟩ := u_known (C := RX12) (T := TX12) (N := 75) (n := 75) htg inX12 (hti _ _ (by decide +kernel : lw_tbl[1553]? = some (Cond.instantiable RX12 75)))
  obtain ⟨dC, dI, hKc⟩ : ∃ (dC : Nat → ClassId) (dI : Nat → Nat → Nat), ∀ (k : Nat) (q : vw_C), vwCl[k]? = some q → u_Kn s q.1 q.2.1 q.2.2 (dC k) (dI k) := by
    refine ⟨fun k => if k = 0 then c0 else if k = 1 then c1 else if k = 2 then c2 else if k = 3 then c3 else if k = 4 then c4 else if k = 5 then c5 else if k = 6 then c6 else if k = 7 then c7 else if k = 8 then c8 else if k = 9 then c9 else if k = 10 then c10 else if k = 11 then c11 else c12, fun k => if k = 0 then i0 else if k = 1 then i1 else if k = 2 then i2 else if k = 3 then i3 else if k = 4 then i4 else if k = 5 then i5 else if k = 6 then i6 else if k = 7 then i7 else if k = 8 then i8 else if k = 9 then i9 else if k = 10 then i10 else if k = 11 then i11 else i12, ?_⟩
    intro k q hq
    match k, hq with
    | 0, hq => cases hq; exact kn0
    | 1, hq => cases hq; exact kn1
    | 2, hq => cases hq; exact kn2
    | 3, hq => cases hq; exact kn3
    | 4, hq => cases hq; exact kn4
    | 5, hq => cases hq; exact kn5
    | 6, hq => cases hq; exact kn6
    | 7, hq => cases hq; exact kn7
    | 8, hq => cases hq; exact kn8
    | 9, hq => cases hq; exact kn9
    | 10, hq => cases hq; exact kn10
    | 11, hq => cases hq; exact kn11
    | 12, hq => cases hq; exact kn12
    | k + 13, hq => simp [vwCl] at hq
  obtain ⟨aI, kI, mI, fI, gI, hI⟩ := Cond.arrayClass_spec (hti _ _ (by decide +kernel : lw_tbl[232]? = some (Cond.arrayClass .int)))
  obtain ⟨aJ, kJ, mJ, fJ, gJ, hJ⟩ := Cond.arrayClass_spec (hti _ _ (by decide +kernel : lw_tbl[233]? = some (Cond.arrayClass .long)))
  obtain ⟨aZ, kZ, mZ, fZ, gZ, hZ⟩ := Cond.arrayClass_spec (hti _ _ (by decide +kernel : lw_tbl[422]? = some (Cond.arrayClass .boolean)))
  obtain ⟨aB, kB, mB, fB, gB, hB⟩ := Cond.arrayClass_spec (hti _ _ (by decide +kernel : lw_tbl[231]? = some (Cond.arrayClass .byte)))
  obtain ⟨w, hw1, hwL, hwD⟩ : ∃ w : Wp, w = (l, (dC, dI), (aI, aJ, aZ, aB), s.heap.size - 1) ∧ wL w = l ∧ wB w + 1 = s.heap.size := ⟨_, rfl, rfl, by show s.heap.size - 1 + 1 = _; omega⟩
  have hK : va_K (wD w) vwCl (tysl w) s := by
    subst hw1
    refine ⟨hKc, fun k q hq => ?_⟩
    match k, hq with
    | 0, hq => cases hq; exact ⟨fun n z => ⟨fun k h => (by cases h), kI, gI, mI, hI⟩, fI⟩
    | 1, hq => cases hq; exact ⟨fun n z => ⟨fun k h => (by cases h), kJ, gJ, mJ, hJ⟩, fJ⟩
    | 2, hq => cases hq; exact ⟨fun n z => ⟨fun k h => (by cases h), kZ, gZ, mZ, hZ⟩, fZ⟩
    | 3, hq => cases hq; exact ⟨fun n z => ⟨fun k h => (by cases h), kB, gB, mB, hB⟩, fB⟩
    | k + 4, hq => simp at hq
  have hNW : NW s := fun q hq => va_Nw.of (nest_on q hq) (hts q (nest_tbl q hq))
  have G : Good w (p, e, room_1, s, m, #[Value.ref b], below, meth, c, 178, 45792) cL_law 4 RL (some .boolean) 1000 :=
    ⟨hx, hb, hml, hown, htg, hlocks, hr, hK, Nat.le_of_ble_eq_true rfl, Nat.le_of_ble_eq_true rfl, Nat.le_of_ble_eq_true rfl, Nat.le_of_ble_eq_true rfl, hNW⟩
  have hbA : ¬ Aw w b := by
    intro h9
    have h10 : wB w < b := h9
    omega
  have hl := lv_entry [.ref b] (n := 4) (Nat.le_of_ble_eq_true rfl)
  rw [lg_entry_eq]
  have hX : (178 : Nat) = 178 ∧ (45792 : Nat) = 45792 := ⟨rfl, rfl⟩
  have walk : AtC w (p, e, room_1, s, m, #[Value.ref b], below, meth, c, 178, 45792) (lw_Z below #[Value.ref b] s) 4 0 [(0, .ref b)] [] ([] ++ []) 0 0 := by
    refine k_new (C := RX11) (T := TX11) (N := 17) (ci := 11) (fs := dfl_X11) (g := 1) G hX inX11 tyX11 tyX11_ok cl_L_7 is_X11 ii_X11 rfl dfl_X11_ok 0 (Nat.le_of_ble_eq_true rfl) (Nat.le_of_ble_eq_true rfl) rfl rfl dL_law_0 ?_
    refine k_dup G dL_law_3 rfl ?_
    refine k_callI (pre := []) (cs := []) (g := 1) (k := 0) (mc := 132) (ms := 24884) (blk := blk_X11 w) G hX (kc_X11 w) rfl im_X11 ii_X11 ico_X11 ⟨by decide, by decide, by decide +kernel⟩ (Or.inl ml_L_9i) (by decide) (by decide) (Nat.le_of_ble_eq_true rfl) (Nat.le_of_ble_eq_true rfl) (Nat.le_of_ble_eq_true rfl) rfl rfl dL_law_4 ?_
    refine k_norm (blk_X11 w 1) rfl ?_
    refine k_astore_n G [(1, .ref (wB w + 1)), (0, .ref b)] dL_law_7 rfl (by decide) rfl ?_
    refine k_new (C := RX12) (T := TX12) (N := 75) (ci := 12) (fs := dfl_X12) (g := 1) G hX inX12 tyX12 tyX12_ok cl_L_10 is_X12 ii_X12 rfl dfl_X12_ok 133 (Nat.le_of_ble_eq_true rfl) (Nat.le_of_ble_eq_true rfl) rfl blk_X11_len dL_law_8 ?_
    refine k_dup G dL_law_11 rfl ?_
    refine k_callI (pre := []) (cs := blk_X11 w 1) (g := 1) (k := 133) (mc := 44) (ms := 20816) (blk := blk_X12 w) G hX (kc_X12 w) rfl im_X12 ii_X12 ico_X12 ⟨by decide, by decide, by decide +kernel⟩ (Or.inl ml_L_12i) (by decide) (by decide) (Nat.le_of_ble_eq_true rfl) (Nat.le_of_ble_eq_true rfl) (Nat.le_of_ble_eq_true rfl) rfl blk_X11_len dL_law_12 ?_
    refine k_astore_n G [(2, .ref (wB w + 134)), (1, .ref (wB w + 1)), (0, .ref b)] dL_law_15 rfl (by decide) rfl ?_
    have fin : Cov w (p, e, room_1, s, m, #[Value.ref b], below, meth, c, 178, 45792) (lw_Z below #[Value.ref b] s) ρ some 4 16 [(2, .ref (wB w + pz (137))), (1, .ref (wB w + pz (1))), (0, .ref b)] [] M0 (L_L_law_18 L xs N N (nI 0) M0) := by
      refine c_iconst G (nI 0) dL_law_16 kI_0 ?_
      refine c_istore_n G [(3, .int (nI 0)), (2, .ref (wB w + pz (137))), (1, .ref (wB w + pz (1))), (0, .ref b)] dL_law_17 rfl (by decide) rfl ?_
      refine c_weak _ [3, 2, 1, 0] rfl (cl_L_law_18 G (fun hdg => c_lawret hρ (Nat.le_of_ble_eq_true rfl) (Nat.le_of_ble_eq_true rfl) hwD hlocks G hdg) ?_ ?_ N (nI 0) M0)
      · intro pc env st M i fn hdg kk h H locs ls hP hS hl'
        cases hi : ix L i with
        | none => rw [ldS, hi] at h; cases h
        | some k =>
          have e9 : ldS L xs i = some (xs k) := by rw [ldS, hi]; rfl
          rw [e9] at h
          obtain ⟨h1, rfl⟩ := ix_some hi
          exact va_sld G.1 G.2.1 hXs hbl hbA hS h1 hdg (kk _ e9 h H locs ls hP hS hl')
      · intro pc env st M t hdg kk h H locs ls hP hS hl'
        exact va_slen G.1 G.2.1 hXs hbl hbA hS hdg (kk h H locs ls hP hS hl')
    intro H locs ls hP hz hS hl'
    have hP' : va_P (wD w) vwCl (wsl w M0) H := by
      rw [← wsx_wsl]
      exact hP
    exact fin (by rw [hD]; rfl) H locs ls hP' hS hl'
  subst hwL
  exact walk s.heap [] _ (fun k q hq => by simp [wsx] at hq) (by simp; omega) va_S.rf hl
