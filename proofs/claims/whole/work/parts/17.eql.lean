/-! the law, from its loop on -/
set_option maxRecDepth 50000 in
set_option maxHeartbeats 4000000 in
theorem qL_law_18 {sl : Nat} {xs : Nat → Int32} {d : Nat} {b3 : Int32} {h : pmH} : pm_Ev sl xs (d + 1) 152 18 [some (.ref 0), some (.ref 1), some (.ref 40), some (.int b3)] [] (SH, h) = if ((nI sl) - (nI 7)) < b3 then (some (some (.int (nI 1)), (SH, h))) else (pm_ix none b3 sl fun j1 => if ((xs j1) &&& (nI 31)) = nI 0 then (pm_ix none (b3 + (nI 1)) sl fun j226 => pm_ri (pm_cf (pm_Ev sl xs) (d + 1) 54 [.ref 1, .int (xs j226)] (SH, h)) SH fun x228 h227 => pm_ix none (b3 + (nI 1)) sl fun j229 => pm_ri (pm_cf (pm_Ev sl xs) (d + 1) 99 [.ref 40, .int (xs j229)] (SH, h227)) SH fun x231 h230 => if x228 = x231 then (pm_Ev sl xs (d + 1) 152 18 [some (.ref 0), some (.ref 1), some (.ref 40), some (.int (b3 + (nI 7)))] [] (SH, h230)) else (some (some (.int (nI 0)), (SH, h230)))) else (if ((xs j1) &&& (nI 31)) = nI 1 then (pm_ix none (b3 + (nI 1)) sl fun j210 => pm_ix none (b3 + (nI 2)) sl fun j211 => pm_ix none (b3 + (nI 3)) sl fun j212 => pm_ix none (b3 + (nI 4)) sl fun j213 => pm_ix none (b3 + (nI 5)) sl fun j214 => pm_ix none (b3 + (nI 6)) sl fun j215 => pm_ri (pm_cf (pm_Ev sl xs) (d + 1) 55 [.ref 1, .int (xs j210), .int (xs j211), .int (xs j212), .int (xs j213), .int (xs j214), .int (xs j215)] (SH, h)) SH fun x217 h216 => pm_ix none (b3 + (nI 1)) sl fun j218 => pm_ix none (b3 + (nI 2)) sl fun j219 => pm_ix none (b3 + (nI 3)) sl fun j220 => pm_ix none (b3 + (nI 4)) sl fun j221 => pm_ix none (b3 + (nI 5)) sl fun j222 => pm_ix none (b3 + (nI 6)) sl fun j223 => pm_ri (pm_cf (pm_Ev sl xs) (d + 1) 102 [.ref 40, .int (xs j218), .int (xs j219), .int (xs j220), .int (xs j221), .int (xs j222), .int (xs j223)] (SH, h216)) SH fun x225 h224 => if x217 = x225 then (pm_Ev sl xs (d + 1) 152 18 [some (.ref 0), some (.ref 1), some (.ref 40), some (.int (b3 + (nI 7)))] [] (SH, h224)) else (some (some (.int (nI 0)), (SH, h224)))) else (if ((xs j1) &&& (nI 31)) = nI 2 then (pm_ix none (b3 + (nI 1)) sl fun j202 => pm_ix none (b3 + (nI 2)) sl fun j203 => pm_ri (pm_cf (pm_Ev sl xs) (d + 1) 56 [.ref 1, .int (xs j202), .int (xs j203)] (SH, h)) SH fun x205 h204 => pm_ix none (b3 + (nI 1)) sl fun j206 => pm_ix none (b3 + (nI 2)) sl fun j207 => pm_ri (pm_cf (pm_Ev sl xs) (d + 1) 103 [.ref 40, .int (xs j206), .int (xs j207)] (SH, h204)) SH fun x209 h208 => if x205 = x209 then (pm_Ev sl xs (d + 1) 152 18 [some (.ref 0), some (.ref 1), some (.ref 40), some (.int (b3 + (nI 7)))] [] (SH, h208)) else (some (some (.int (nI 0)), (SH, h208)))) else (if ((xs j1) &&& (nI 31)) = nI 3 then (pm_ix none (b3 + (nI 1)) sl fun j194 => pm_ix none (b3 + (nI 2)) sl fun j195 => pm_ri (pm_cf (pm_Ev sl xs) (d + 1) 57 [.ref 1, .int (xs j194), .int (xs j195)] (SH, h)) SH fun x197 h196 => pm_ix none (b3 + (nI 1)) sl fun j198 => pm_ix none (b3 + (nI 2)) sl fun j199 => pm_ri (pm_cf (pm_Ev sl xs) (d + 1) 105 [.ref 40, .int (xs j198), .int (xs j199)] (SH, h196)) SH fun x201 h200 => if x197 = x201 then (pm_Ev sl xs (d + 1) 152 18 [some (.ref 0), some (.ref 1), some (.ref 40), some (.int (b3 + (nI 7)))] [] (SH, h200)) else (some (some (.int (nI 0)), (SH, h200)))) else (if ((xs j1) &&& (nI 31)) = nI 4 then (pm_ix none (b3 + (nI 1)) sl fun j186 => pm_ix none (b3 + (nI 2)) sl fun j187 => pm_ri (pm_cf (pm_Ev sl xs) (d + 1) 58 [.ref 1, .int (xs j186), .int (xs j187)] (SH, h)) SH fun x189 h188 => pm_ix none (b3 + (nI 1)) sl fun j190 => pm_ix none (b3 + (nI 2)) sl fun j191 => pm_ri (pm_cf (pm_Ev sl xs) (d + 1) 107 [.ref 40, .int (xs j190), .int (xs j191)] (SH, h188)) SH fun x193 h192 => if x189 = x193 then (pm_Ev sl xs (d + 1) 152 18 [some (.ref 0), some (.ref 1), some (.ref 40), some (.int (b3 + (nI 7)))] [] (SH, h192)) else (some (some (.int (nI 0)), (SH, h192)))) else (if ((xs j1) &&& (nI 31)) = nI 5 then (pm_ix none (b3 + (nI 1)) sl fun j178 => pm_ix none (b3 + (nI 2)) sl fun j179 => pm_ri (pm_cf (pm_Ev sl xs) (d + 1) 59 [.ref 1, .int (xs j178), .int (xs j179)] (SH, h)) SH fun x181 h180 => pm_ix none (b3 + (nI 1)) sl fun j182 => pm_ix none (b3 + (nI 2)) sl fun j183 => pm_ri (pm_cf (pm_Ev sl xs) (d + 1) 109 [.ref 40, .int (xs j182), .int (xs j183)] (SH, h180)) SH fun x185 h184 => if x181 = x185 then (pm_Ev sl xs (d + 1) 152 18 [some (.ref 0), some (.ref 1), some (.ref 40), some (.int (b3 + (nI 7)))] [] (SH, h184)) else (some (some (.int (nI 0)), (SH, h184)))) else (if ((xs j1) &&& (nI 31)) = nI 6 then (pm_ix none (b3 + (nI 1)) sl fun j170 => pm_ix none (b3 + (nI 2)) sl fun j171 => pm_ri (pm_cf (pm_Ev sl xs) (d + 1) 60 [.ref 1, .int (xs j170), .int (xs j171)] (SH, h)) SH fun x173 h172 => pm_ix none (b3 + (nI 1)) sl fun j174 => pm_ix none (b3 + (nI 2)) sl fun j175 => pm_ri (pm_cf (pm_Ev sl xs) (d + 1) 113 [.ref 40, .int (xs j174), .int (xs j175)] (SH, h172)) SH fun x177 h176 => if x173 = x177 then (pm_Ev sl xs (d + 1) 152 18 [some (.ref 0), some (.ref 1), some (.ref 40), some (.int (b3 + (nI 7)))] [] (SH, h176)) else (some (some (.int (nI 0)), (SH, h176)))) else (if ((xs j1) &&& (nI 31)) = nI 7 then (pm_ix none (b3 + (nI 1)) sl fun j164 => pm_ri (pm_cf (pm_Ev sl xs) (d + 1) 61 [.ref 1, .int (xs j164)] (SH, h)) SH fun x166 h165 => pm_ix none (b3 + (nI 1)) sl fun j167 => pm_ri (pm_cf (pm_Ev sl xs) (d + 1) 114 [.ref 40, .int (xs j167)] (SH, h165)) SH fun x169 h168 => if x166 = x169 then (pm_Ev sl xs (d + 1) 152 18 [some (.ref 0), some (.ref 1), some (.ref 40), some (.int (b3 + (nI 7)))] [] (SH, h168)) else (some (some (.int (nI 0)), (SH, h168)))) else (if ((xs j1) &&& (nI 31)) = nI 8 then (pm_ri (pm_cf (pm_Ev sl xs) (d + 1) 62 [.ref 1] (SH, h)) SH fun x161 h160 => pm_ri (pm_cf (pm_Ev sl xs) (d + 1) 115 [.ref 40] (SH, h160)) SH fun x163 h162 => if x161 = x163 then (pm_Ev sl xs (d + 1) 152 18 [some (.ref 0), some (.ref 1), some (.ref 40), some (.int (b3 + (nI 7)))] [] (SH, h162)) else (some (some (.int (nI 0)), (SH, h162)))) else (if ((xs j1) &&& (nI 31)) = nI 9 then (pm_ix none (b3 + (nI 1)) sl fun j154 => pm_ri (pm_cf (pm_Ev sl xs) (d + 1) 63 [.ref 1, .int (xs j154)] (SH, h)) SH fun x156 h155 => pm_ix none (b3 + (nI 1)) sl fun j157 => pm_ri (pm_cf (pm_Ev sl xs) (d + 1) 121 [.ref 40, .int (xs j157)] (SH, h155)) SH fun x159 h158 => if x156 = x159 then (pm_Ev sl xs (d + 1) 152 18 [some (.ref 0), some (.ref 1), some (.ref 40), some (.int (b3 + (nI 7)))] [] (SH, h158)) else (some (some (.int (nI 0)), (SH, h158)))) else (if ((xs j1) &&& (nI 31)) = nI 10 then (pm_ri (pm_cf (pm_Ev sl xs) (d + 1) 64 [.ref 1] (SH, h)) SH fun x151 h150 => pm_ri (pm_cf (pm_Ev sl xs) (d + 1) 122 [.ref 40] (SH, h150)) SH fun x153 h152 => if x151 = x153 then (pm_Ev sl xs (d + 1) 152 18 [some (.ref 0), some (.ref 1), some (.ref 40), some (.int (b3 + (nI 7)))] [] (SH, h152)) else (some (some (.int (nI 0)), (SH, h152)))) else (if ((xs j1) &&& (nI 31)) = nI 11 then (pm_ix none (b3 + (nI 1)) sl fun j144 => pm_ri (pm_cf (pm_Ev sl xs) (d + 1) 65 [.ref 1, .int (xs j144)] (SH, h)) SH fun x146 h145 => pm_ix none (b3 + (nI 1)) sl fun j147 => pm_ri (pm_cf (pm_Ev sl xs) (d + 1) 123 [.ref 40, .int (xs j147)] (SH, h145)) SH fun x149 h148 => if x146 = x149 then (pm_Ev sl xs (d + 1) 152 18 [some (.ref 0), some (.ref 1), some (.ref 40), some (.int (b3 + (nI 7)))] [] (SH, h148)) else (some (some (.int (nI 0)), (SH, h148)))) else (if ((xs j1) &&& (nI 31)) = nI 12 then (pm_ix none (b3 + (nI 1)) sl fun j134 => pm_ix none (b3 + (nI 2)) sl fun j135 => pm_ix none (b3 + (nI 3)) sl fun j136 => pm_ri (pm_cf (pm_Ev sl xs) (d + 1) 66 [.ref 1, .int (xs j134), .int (xs j135), .int (xs j136)] (SH, h)) SH fun x138 h137 => pm_ix none (b3 + (nI 1)) sl fun j139 => pm_ix none (b3 + (nI 2)) sl fun j140 => pm_ix none (b3 + (nI 3)) sl fun j141 => pm_ri (pm_cf (pm_Ev sl xs) (d + 1) 124 [.ref 40, .int (xs j139), .int (xs j140), .int (xs j141)] (SH, h137)) SH fun x143 h142 => if x138 = x143 then (pm_Ev sl xs (d + 1) 152 18 [some (.ref 0), some (.ref 1), some (.ref 40), some (.int (b3 + (nI 7)))] [] (SH, h142)) else (some (some (.int (nI 0)), (SH, h142)))) else (if ((xs j1) &&& (nI 31)) = nI 13 then (pm_ix none (b3 + (nI 1)) sl fun j128 => pm_ri (pm_cf (pm_Ev sl xs) (d + 1) 67 [.ref 1, .int (xs j128)] (SH, h)) SH fun x130 h129 => pm_ix none (b3 + (nI 1)) sl fun j131 => pm_ri (pm_cf (pm_Ev sl xs) (d + 1) 125 [.ref 40, .int (xs j131)] (SH, h129)) SH fun x133 h132 => if x130 = x133 then (pm_Ev sl xs (d + 1) 152 18 [some (.ref 0), some (.ref 1), some (.ref 40), some (.int (b3 + (nI 7)))] [] (SH, h132)) else (some (some (.int (nI 0)), (SH, h132)))) else (if ((xs j1) &&& (nI 31)) = nI 14 then (pm_ix none (b3 + (nI 1)) sl fun j110 => pm_ix none (b3 + (nI 2)) sl fun j111 => if (xs j111) = 0 then (pm_ri (pm_cf (pm_Ev sl xs) (d + 1) 68 [.ref 1, .int (xs j110), .int (nI 0)] (SH, h)) SH fun x113 h112 => pm_ix none (b3 + (nI 1)) sl fun j114 => pm_ix none (b3 + (nI 2)) sl fun j115 => if (xs j115) = 0 then (pm_ri (pm_cf (pm_Ev sl xs) (d + 1) 126 [.ref 40, .int (xs j114), .int (nI 0)] (SH, h112)) SH fun x117 h116 => if x113 = x117 then (pm_Ev sl xs (d + 1) 152 18 [some (.ref 0), some (.ref 1), some (.ref 40), some (.int (b3 + (nI 7)))] [] (SH, h116)) else (some (some (.int (nI 0)), (SH, h116)))) else (pm_ri (pm_cf (pm_Ev sl xs) (d + 1) 126 [.ref 40, .int (xs j114), .int (nI 1)] (SH, h112)) SH fun x119 h118 => if x113 = x119 then (pm_Ev sl xs (d + 1) 152 18 [some (.ref 0), some (.ref 1), some (.ref 40), some (.int (b3 + (nI 7)))] [] (SH, h118)) else (some (some (.int (nI 0)), (SH, h118))))) else (pm_ri (pm_cf (pm_Ev sl xs) (d + 1) 68 [.ref 1, .int (xs j110), .int (nI 1)] (SH, h)) SH fun x121 h120 => pm_ix none (b3 + (nI 1)) sl fun j122 => pm_ix none (b3 + (nI 2)) sl fun j123 => if (xs j123) = 0 then (pm_ri (pm_cf (pm_Ev sl xs) (d + 1) 126 [.ref 40, .int (xs j122), .int (nI 0)] (SH, h120)) SH fun x125 h124 => if x121 = x125 then (pm_Ev sl xs (d + 1) 152 18 [some (.ref 0), some (.ref 1), some (.ref 40), some (.int (b3 + (nI 7)))] [] (SH, h124)) else (some (some (.int (nI 0)), (SH, h124)))) else (pm_ri (pm_cf (pm_Ev sl xs) (d + 1) 126 [.ref 40, .int (xs j122), .int (nI 1)] (SH, h120)) SH fun x127 h126 => if x121 = x127 then (pm_Ev sl xs (d + 1) 152 18 [some (.ref 0), some (.ref 1), some (.ref 40), some (.int (b3 + (nI 7)))] [] (SH, h126)) else (some (some (.int (nI 0)), (SH, h126)))))) else (if ((xs j1) &&& (nI 31)) = nI 15 then (pm_ix none (b3 + (nI 1)) sl fun j102 => pm_ix none (b3 + (nI 2)) sl fun j103 => pm_ri (pm_cf (pm_Ev sl xs) (d + 1) 69 [.ref 1, .int (xs j102), .int (xs j103)] (SH, h)) SH fun x105 h104 => pm_ix none (b3 + (nI 1)) sl fun j106 => pm_ix none (b3 + (nI 2)) sl fun j107 => pm_ri (pm_cf (pm_Ev sl xs) (d + 1) 127 [.ref 40, .int (xs j106), .int (xs j107)] (SH, h104)) SH fun x109 h108 => if x105 = x109 then (pm_Ev sl xs (d + 1) 152 18 [some (.ref 0), some (.ref 1), some (.ref 40), some (.int (b3 + (nI 7)))] [] (SH, h108)) else (some (some (.int (nI 0)), (SH, h108)))) else (if ((xs j1) &&& (nI 31)) = nI 16 then (pm_ix none (b3 + (nI 1)) sl fun j94 => pm_ix none (b3 + (nI 2)) sl fun j95 => pm_ri (pm_cf (pm_Ev sl xs) (d + 1) 70 [.ref 1, .int (xs j94), .int (xs j95)] (SH, h)) SH fun x97 h96 => pm_ix none (b3 + (nI 1)) sl fun j98 => pm_ix none (b3 + (nI 2)) sl fun j99 => pm_ri (pm_cf (pm_Ev sl xs) (d + 1) 128 [.ref 40, .int (xs j98), .int (xs j99)] (SH, h96)) SH fun x101 h100 => if x97 = x101 then (pm_Ev sl xs (d + 1) 152 18 [some (.ref 0), some (.ref 1), some (.ref 40), some (.int (b3 + (nI 7)))] [] (SH, h100)) else (some (some (.int (nI 0)), (SH, h100)))) else (if ((xs j1) &&& (nI 31)) = nI 17 then (pm_ix none (b3 + (nI 1)) sl fun j86 => pm_ix none (b3 + (nI 2)) sl fun j87 => pm_ri (pm_cf (pm_Ev sl xs) (d + 1) 71 [.ref 1, .int (xs j86), .int (xs j87)] (SH, h)) SH fun x89 h88 => pm_ix none (b3 + (nI 1)) sl fun j90 => pm_ix none (b3 + (nI 2)) sl fun j91 => pm_ri (pm_cf (pm_Ev sl xs) (d + 1) 130 [.ref 40, .int (xs j90), .int (xs j91)] (SH, h88)) SH fun x93 h92 => if x89 = x93 then (pm_Ev sl xs (d + 1) 152 18 [some (.ref 0), some (.ref 1), some (.ref 40), some (.int (b3 + (nI 7)))] [] (SH, h92)) else (some (some (.int (nI 0)), (SH, h92)))) else (if ((xs j1) &&& (nI 31)) = nI 18 then (pm_ri (pm_cf (pm_Ev sl xs) (d + 1) 72 [.ref 1] (SH, h)) SH fun x83 h82 => pm_ri (pm_cf (pm_Ev sl xs) (d + 1) 134 [.ref 40] (SH, h82)) SH fun x85 h84 => if x83 = x85 then (pm_Ev sl xs (d + 1) 152 18 [some (.ref 0), some (.ref 1), some (.ref 40), some (.int (b3 + (nI 7)))] [] (SH, h84)) else (some (some (.int (nI 0)), (SH, h84)))) else (if ((xs j1) &&& (nI 31)) = nI 19 then (pm_ix none (b3 + (nI 1)) sl fun j74 => pm_ix none (b3 + (nI 2)) sl fun j75 => pm_ri (pm_cf (pm_Ev sl xs) (d + 1) 73 [.ref 1, .int (xs j74), .int (xs j75)] (SH, h)) SH fun x77 h76 => pm_ix none (b3 + (nI 1)) sl fun j78 => pm_ix none (b3 + (nI 2)) sl fun j79 => pm_ri (pm_cf (pm_Ev sl xs) (d + 1) 135 [.ref 40, .int (xs j78), .int (xs j79)] (SH, h76)) SH fun x81 h80 => if x77 = x81 then (pm_Ev sl xs (d + 1) 152 18 [some (.ref 0), some (.ref 1), some (.ref 40), some (.int (b3 + (nI 7)))] [] (SH, h80)) else (some (some (.int (nI 0)), (SH, h80)))) else (if ((xs j1) &&& (nI 31)) = nI 20 then (pm_ri (pm_cf (pm_Ev sl xs) (d + 1) 74 [.ref 1] (SH, h)) SH fun x71 h70 => pm_ri (pm_cf (pm_Ev sl xs) (d + 1) 137 [.ref 40] (SH, h70)) SH fun x73 h72 => if x71 = x73 then (pm_Ev sl xs (d + 1) 152 18 [some (.ref 0), some (.ref 1), some (.ref 40), some (.int (b3 + (nI 7)))] [] (SH, h72)) else (some (some (.int (nI 0)), (SH, h72)))) else (if ((xs j1) &&& (nI 31)) = nI 21 then (pm_ix none (b3 + (nI 1)) sl fun j62 => pm_ix none (b3 + (nI 2)) sl fun j63 => pm_ri (pm_cf (pm_Ev sl xs) (d + 1) 75 [.ref 1, .int (xs j62), .int (xs j63)] (SH, h)) SH fun x65 h64 => pm_ix none (b3 + (nI 1)) sl fun j66 => pm_ix none (b3 + (nI 2)) sl fun j67 => pm_ri (pm_cf (pm_Ev sl xs) (d + 1) 138 [.ref 40, .int (xs j66), .int (xs j67)] (SH, h64)) SH fun x69 h68 => if x65 = x69 then (pm_Ev sl xs (d + 1) 152 18 [some (.ref 0), some (.ref 1), some (.ref 40), some (.int (b3 + (nI 7)))] [] (SH, h68)) else (some (some (.int (nI 0)), (SH, h68)))) else (if ((xs j1) &&& (nI 31)) = nI 22 then (pm_ix none (b3 + (nI 1)) sl fun j56 => pm_ri (pm_cf (pm_Ev sl xs) (d + 1) 76 [.ref 1, .int (xs j56)] (SH, h)) SH fun x58 h57 => pm_ix none (b3 + (nI 1)) sl fun j59 => pm_ri (pm_cf (pm_Ev sl xs) (d + 1) 139 [.ref 40, .int (xs j59)] (SH, h57)) SH fun x61 h60 => if x58 = x61 then (pm_Ev sl xs (d + 1) 152 18 [some (.ref 0), some (.ref 1), some (.ref 40), some (.int (b3 + (nI 7)))] [] (SH, h60)) else (some (some (.int (nI 0)), (SH, h60)))) else (if ((xs j1) &&& (nI 31)) = nI 23 then (pm_ix none (b3 + (nI 1)) sl fun j48 => pm_ix none (b3 + (nI 2)) sl fun j49 => pm_ri (pm_cf (pm_Ev sl xs) (d + 1) 77 [.ref 1, .int (xs j48), .int (xs j49)] (SH, h)) SH fun x51 h50 => pm_ix none (b3 + (nI 1)) sl fun j52 => pm_ix none (b3 + (nI 2)) sl fun j53 => pm_ri (pm_cf (pm_Ev sl xs) (d + 1) 140 [.ref 40, .int (xs j52), .int (xs j53)] (SH, h50)) SH fun x55 h54 => if x51 = x55 then (pm_Ev sl xs (d + 1) 152 18 [some (.ref 0), some (.ref 1), some (.ref 40), some (.int (b3 + (nI 7)))] [] (SH, h54)) else (some (some (.int (nI 0)), (SH, h54)))) else (if ((xs j1) &&& (nI 31)) = nI 24 then (pm_ix none (b3 + (nI 1)) sl fun j40 => pm_ix none (b3 + (nI 2)) sl fun j41 => pm_ri (pm_cf (pm_Ev sl xs) (d + 1) 78 [.ref 1, .int (xs j40), .int (xs j41)] (SH, h)) SH fun x43 h42 => pm_ix none (b3 + (nI 1)) sl fun j44 => pm_ix none (b3 + (nI 2)) sl fun j45 => pm_ri (pm_cf (pm_Ev sl xs) (d + 1) 142 [.ref 40, .int (xs j44), .int (xs j45)] (SH, h42)) SH fun x47 h46 => if x43 = x47 then (pm_Ev sl xs (d + 1) 152 18 [some (.ref 0), some (.ref 1), some (.ref 40), some (.int (b3 + (nI 7)))] [] (SH, h46)) else (some (some (.int (nI 0)), (SH, h46)))) else (if ((xs j1) &&& (nI 31)) = nI 25 then (pm_ix none (b3 + (nI 1)) sl fun j32 => pm_ix none (b3 + (nI 2)) sl fun j33 => pm_ri (pm_cf (pm_Ev sl xs) (d + 1) 79 [.ref 1, .int (xs j32), .int (xs j33)] (SH, h)) SH fun x35 h34 => pm_ix none (b3 + (nI 1)) sl fun j36 => pm_ix none (b3 + (nI 2)) sl fun j37 => pm_ri (pm_cf (pm_Ev sl xs) (d + 1) 143 [.ref 40, .int (xs j36), .int (xs j37)] (SH, h34)) SH fun x39 h38 => if x35 = x39 then (pm_Ev sl xs (d + 1) 152 18 [some (.ref 0), some (.ref 1), some (.ref 40), some (.int (b3 + (nI 7)))] [] (SH, h38)) else (some (some (.int (nI 0)), (SH, h38)))) else (if ((xs j1) &&& (nI 31)) = nI 26 then (pm_ix none (b3 + (nI 1)) sl fun j24 => pm_ix none (b3 + (nI 2)) sl fun j25 => pm_ri (pm_cf (pm_Ev sl xs) (d + 1) 80 [.ref 1, .int (xs j24), .int (xs j25)] (SH, h)) SH fun x27 h26 => pm_ix none (b3 + (nI 1)) sl fun j28 => pm_ix none (b3 + (nI 2)) sl fun j29 => pm_ri (pm_cf (pm_Ev sl xs) (d + 1) 144 [.ref 40, .int (xs j28), .int (xs j29)] (SH, h26)) SH fun x31 h30 => if x27 = x31 then (pm_Ev sl xs (d + 1) 152 18 [some (.ref 0), some (.ref 1), some (.ref 40), some (.int (b3 + (nI 7)))] [] (SH, h30)) else (some (some (.int (nI 0)), (SH, h30)))) else (if ((xs j1) &&& (nI 31)) = nI 27 then (pm_ix none (b3 + (nI 1)) sl fun j18 => pm_ri (pm_cf (pm_Ev sl xs) (d + 1) 81 [.ref 1, .int (xs j18)] (SH, h)) SH fun x20 h19 => pm_ix none (b3 + (nI 1)) sl fun j21 => pm_ri (pm_cf (pm_Ev sl xs) (d + 1) 145 [.ref 40, .int (xs j21)] (SH, h19)) SH fun x23 h22 => if x20 = x23 then (pm_Ev sl xs (d + 1) 152 18 [some (.ref 0), some (.ref 1), some (.ref 40), some (.int (b3 + (nI 7)))] [] (SH, h22)) else (some (some (.int (nI 0)), (SH, h22)))) else (if ((xs j1) &&& (nI 31)) = nI 28 then (pm_ri (pm_cf (pm_Ev sl xs) (d + 1) 82 [.ref 1] (SH, h)) SH fun x15 h14 => pm_ri (pm_cf (pm_Ev sl xs) (d + 1) 146 [.ref 40] (SH, h14)) SH fun x17 h16 => if x15 = x17 then (pm_Ev sl xs (d + 1) 152 18 [some (.ref 0), some (.ref 1), some (.ref 40), some (.int (b3 + (nI 7)))] [] (SH, h16)) else (some (some (.int (nI 0)), (SH, h16)))) else (if ((xs j1) &&& (nI 31)) = nI 29 then (pm_ix none (b3 + (nI 1)) sl fun j8 => pm_ri (pm_cf (pm_Ev sl xs) (d + 1) 83 [.ref 1, .int (xs j8)] (SH, h)) SH fun x10 h9 => pm_ix none (b3 + (nI 1)) sl fun j11 => pm_ri (pm_cf (pm_Ev sl xs) (d + 1) 147 [.ref 40, .int (xs j11)] (SH, h9)) SH fun x13 h12 => if x10 = x13 then (pm_Ev sl xs (d + 1) 152 18 [some (.ref 0), some (.ref 1), some (.ref 40), some (.int (b3 + (nI 7)))] [] (SH, h12)) else (some (some (.int (nI 0)), (SH, h12)))) else (if ((xs j1) &&& (nI 31)) = nI 30 then (pm_ix none (b3 + (nI 1)) sl fun j2 => pm_ri (pm_cf (pm_Ev sl xs) (d + 1) 84 [.ref 1, .int (xs j2)] (SH, h)) SH fun x4 h3 => pm_ix none (b3 + (nI 1)) sl fun j5 => pm_ri (pm_cf (pm_Ev sl xs) (d + 1) 148 [.ref 40, .int (xs j5)] (SH, h3)) SH fun x7 h6 => if x4 = x7 then (pm_Ev sl xs (d + 1) 152 18 [some (.ref 0), some (.ref 1), some (.ref 40), some (.int (b3 + (nI 7)))] [] (SH, h6)) else (some (some (.int (nI 0)), (SH, h6)))) else (pm_Ev sl xs (d + 1) 152 18 [some (.ref 0), some (.ref 1), some (.ref 40), some (.int (b3 + (nI 7)))] [] (SH, h))))))))))))))))))))))))))))))))) := by
  have hM : pm_mt 152 = some mt_152 := rfl
  refine e_iload_n (pc2 := 19) hM rfl rfl rfl ?_
  refine e_aload_n (pc2 := 20) hM rfl rfl rfl ?_
  refine e_slen (pc2 := 21) hM rfl rfl ?_
  refine e_bipush (pc2 := 23) (v := nI 7) hM rfl rfl rfl rfl ?_
  refine e_isub (pc2 := 24) hM rfl rfl ?_
  refine e_icmp_gt (pc2 := 27) (tgt := 1079) hM rfl rfl rfl ?_ ?_
  · refine e_iconst (pc2 := 1080) (v := nI 1) hM rfl rfl rfl ?_
    exact e_zret hM rfl rfl pm_01b
  · refine e_aload_n (pc2 := 28) hM rfl rfl rfl ?_
    refine e_iload_n (pc2 := 29) hM rfl rfl rfl ?_
    refine e_sld (pc2 := 30) hM rfl rfl (fun j1 => ?_)
    refine e_bipush (pc2 := 32) (v := nI 31) hM rfl rfl rfl rfl ?_
    refine e_iand (pc2 := 33) hM rfl rfl ?_
    refine e_switch hM rfl rfl ?_
    refine s_cons (tgt := 172) rfl ?_ ?_
    · refine e_aload_n (pc2 := 173) hM rfl rfl rfl ?_
      refine e_aload_n (pc2 := 174) hM rfl rfl rfl ?_
      refine e_iload_n (pc2 := 175) hM rfl rfl rfl ?_
      refine e_iconst (pc2 := 176) (v := nI 1) hM rfl rfl rfl ?_
      refine e_iadd (pc2 := 177) hM rfl rfl ?_
      refine e_sld (pc2 := 178) hM rfl rfl (fun j226 => ?_)
      refine e_cvi (pc2 := 181) (k := 0) (As := [.ref 1, .int (xs j226)]) (rest := []) hM rfl rfl rfl rfl rfl rfl rfl (fun x228 h227 => ?_)
      refine e_aload_n (pc2 := 182) hM rfl rfl rfl ?_
      refine e_aload_n (pc2 := 183) hM rfl rfl rfl ?_
      refine e_iload_n (pc2 := 184) hM rfl rfl rfl ?_
      refine e_iconst (pc2 := 185) (v := nI 1) hM rfl rfl rfl ?_
      refine e_iadd (pc2 := 186) hM rfl rfl ?_
      refine e_sld (pc2 := 187) hM rfl rfl (fun j229 => ?_)
      refine e_cvi (pc2 := 190) (k := 39) (As := [.ref 40, .int (xs j229)]) (rest := [.int x228]) hM rfl rfl rfl rfl rfl rfl rfl (fun x231 h230 => ?_)
      refine e_icmp_eq (pc2 := 193) (tgt := 1073) hM rfl rfl rfl ?_ ?_
      · refine e_iinc (pc2 := 1076) (v := nI 7) (L2 := [some (.ref 0), some (.ref 1), some (.ref 40), some (.int (b3 + (nI 7)))]) hM rfl rfl rfl rfl rfl ?_
        refine e_goto (tgt := 18) hM rfl rfl ?_
        exact rfl
      · refine e_iconst (pc2 := 194) (v := nI 0) hM rfl rfl rfl ?_
        exact e_zret hM rfl rfl pm_01a
    refine s_cons (tgt := 195) rfl ?_ ?_
    · refine e_aload_n (pc2 := 196) hM rfl rfl rfl ?_
      refine e_aload_n (pc2 := 197) hM rfl rfl rfl ?_
      refine e_iload_n (pc2 := 198) hM rfl rfl rfl ?_
      refine e_iconst (pc2 := 199) (v := nI 1) hM rfl rfl rfl ?_
      refine e_iadd (pc2 := 200) hM rfl rfl ?_
      refine e_sld (pc2 := 201) hM rfl rfl (fun j210 => ?_)
      refine e_aload_n (pc2 := 202) hM rfl rfl rfl ?_
      refine e_iload_n (pc2 := 203) hM rfl rfl rfl ?_
      refine e_iconst (pc2 := 204) (v := nI 2) hM rfl rfl rfl ?_
      refine e_iadd (pc2 := 205) hM rfl rfl ?_
      refine e_sld (pc2 := 206) hM rfl rfl (fun j211 => ?_)
      refine e_aload_n (pc2 := 207) hM rfl rfl rfl ?_
      refine e_iload_n (pc2 := 208) hM rfl rfl rfl ?_
      refine e_iconst (pc2 := 209) (v := nI 3) hM rfl rfl rfl ?_
      refine e_iadd (pc2 := 210) hM rfl rfl ?_
      refine e_sld (pc2 := 211) hM rfl rfl (fun j212 => ?_)
      refine e_aload_n (pc2 := 212) hM rfl rfl rfl ?_
      refine e_iload_n (pc2 := 213) hM rfl rfl rfl ?_
      refine e_iconst (pc2 := 214) (v := nI 4) hM rfl rfl rfl ?_
      refine e_iadd (pc2 := 215) hM rfl rfl ?_
      refine e_sld (pc2 := 216) hM rfl rfl (fun j213 => ?_)
      refine e_aload_n (pc2 := 217) hM rfl rfl rfl ?_
      refine e_iload_n (pc2 := 218) hM rfl rfl rfl ?_
      refine e_iconst (pc2 := 219) (v := nI 5) hM rfl rfl rfl ?_
      refine e_iadd (pc2 := 220) hM rfl rfl ?_
      refine e_sld (pc2 := 221) hM rfl rfl (fun j214 => ?_)
      refine e_aload_n (pc2 := 222) hM rfl rfl rfl ?_
      refine e_iload_n (pc2 := 223) hM rfl rfl rfl ?_
      refine e_bipush (pc2 := 225) (v := nI 6) hM rfl rfl rfl rfl ?_
      refine e_iadd (pc2 := 226) hM rfl rfl ?_
      refine e_sld (pc2 := 227) hM rfl rfl (fun j215 => ?_)
      refine e_cvi (pc2 := 230) (k := 0) (As := [.ref 1, .int (xs j210), .int (xs j211), .int (xs j212), .int (xs j213), .int (xs j214), .int (xs j215)]) (rest := []) hM rfl rfl rfl rfl rfl rfl rfl (fun x217 h216 => ?_)
      refine e_aload_n (pc2 := 231) hM rfl rfl rfl ?_
      refine e_aload_n (pc2 := 232) hM rfl rfl rfl ?_
      refine e_iload_n (pc2 := 233) hM rfl rfl rfl ?_
      refine e_iconst (pc2 := 234) (v := nI 1) hM rfl rfl rfl ?_
      refine e_iadd (pc2 := 235) hM rfl rfl ?_
      refine e_sld (pc2 := 236) hM rfl rfl (fun j218 => ?_)
      refine e_aload_n (pc2 := 237) hM rfl rfl rfl ?_
      refine e_iload_n (pc2 := 238) hM rfl rfl rfl ?_
      refine e_iconst (pc2 := 239) (v := nI 2) hM rfl rfl rfl ?_
      refine e_iadd (pc2 := 240) hM rfl rfl ?_
      refine e_sld (pc2 := 241) hM rfl rfl (fun j219 => ?_)
      refine e_aload_n (pc2 := 242) hM rfl rfl rfl ?_
      refine e_iload_n (pc2 := 243) hM rfl rfl rfl ?_
      refine e_iconst (pc2 := 244) (v := nI 3) hM rfl rfl rfl ?_
      refine e_iadd (pc2 := 245) hM rfl rfl ?_
      refine e_sld (pc2 := 246) hM rfl rfl (fun j220 => ?_)
      refine e_aload_n (pc2 := 247) hM rfl rfl rfl ?_
      refine e_iload_n (pc2 := 248) hM rfl rfl rfl ?_
      refine e_iconst (pc2 := 249) (v := nI 4) hM rfl rfl rfl ?_
      refine e_iadd (pc2 := 250) hM rfl rfl ?_
      refine e_sld (pc2 := 251) hM rfl rfl (fun j221 => ?_)
      refine e_aload_n (pc2 := 252) hM rfl rfl rfl ?_
      refine e_iload_n (pc2 := 253) hM rfl rfl rfl ?_
      refine e_iconst (pc2 := 254) (v := nI 5) hM rfl rfl rfl ?_
      refine e_iadd (pc2 := 255) hM rfl rfl ?_
      refine e_sld (pc2 := 256) hM rfl rfl (fun j222 => ?_)
      refine e_aload_n (pc2 := 257) hM rfl rfl rfl ?_
      refine e_iload_n (pc2 := 258) hM rfl rfl rfl ?_
      refine e_bipush (pc2 := 260) (v := nI 6) hM rfl rfl rfl rfl ?_
      refine e_iadd (pc2 := 261) hM rfl rfl ?_
      refine e_sld (pc2 := 262) hM rfl rfl (fun j223 => ?_)
      refine e_cvi (pc2 := 265) (k := 39) (As := [.ref 40, .int (xs j218), .int (xs j219), .int (xs j220), .int (xs j221), .int (xs j222), .int (xs j223)]) (rest := [.int x217]) hM rfl rfl rfl rfl rfl rfl rfl (fun x225 h224 => ?_)
      refine e_icmp_eq (pc2 := 268) (tgt := 1073) hM rfl rfl rfl ?_ ?_
      · refine e_iinc (pc2 := 1076) (v := nI 7) (L2 := [some (.ref 0), some (.ref 1), some (.ref 40), some (.int (b3 + (nI 7)))]) hM rfl rfl rfl rfl rfl ?_
        refine e_goto (tgt := 18) hM rfl rfl ?_
        exact rfl
      · refine e_iconst (pc2 := 269) (v := nI 0) hM rfl rfl rfl ?_
        exact e_zret hM rfl rfl pm_01a
    refine s_cons (tgt := 270) rfl ?_ ?_
    · refine e_aload_n (pc2 := 271) hM rfl rfl rfl ?_
      refine e_aload_n (pc2 := 272) hM rfl rfl rfl ?_
      refine e_iload_n (pc2 := 273) hM rfl rfl rfl ?_
      refine e_iconst (pc2 := 274) (v := nI 1) hM rfl rfl rfl ?_
      refine e_iadd (pc2 := 275) hM rfl rfl ?_
      refine e_sld (pc2 := 276) hM rfl rfl (fun j202 => ?_)
      refine e_aload_n (pc2 := 277) hM rfl rfl rfl ?_
      refine e_iload_n (pc2 := 278) hM rfl rfl rfl ?_
      refine e_iconst (pc2 := 279) (v := nI 2) hM rfl rfl rfl ?_
      refine e_iadd (pc2 := 280) hM rfl rfl ?_
      refine e_sld (pc2 := 281) hM rfl rfl (fun j203 => ?_)
      refine e_cvi (pc2 := 284) (k := 0) (As := [.ref 1, .int (xs j202), .int (xs j203)]) (rest := []) hM rfl rfl rfl rfl rfl rfl rfl (fun x205 h204 => ?_)
      refine e_aload_n (pc2 := 285) hM rfl rfl rfl ?_
      refine e_aload_n (pc2 := 286) hM rfl rfl rfl ?_
      refine e_iload_n (pc2 := 287) hM rfl rfl rfl ?_
      refine e_iconst (pc2 := 288) (v := nI 1) hM rfl rfl rfl ?_
      refine e_iadd (pc2 := 289) hM rfl rfl ?_
      refine e_sld (pc2 := 290) hM rfl rfl (fun j206 => ?_)
      refine e_aload_n (pc2 := 291) hM rfl rfl rfl ?_
      refine e_iload_n (pc2 := 292) hM rfl rfl rfl ?_
      refine e_iconst (pc2 := 293) (v := nI 2) hM rfl rfl rfl ?_
      refine e_iadd (pc2 := 294) hM rfl rfl ?_
      refine e_sld (pc2 := 295) hM rfl rfl (fun j207 => ?_)
      refine e_cvi (pc2 := 298) (k := 39) (As := [.ref 40, .int (xs j206), .int (xs j207)]) (rest := [.int x205]) hM rfl rfl rfl rfl rfl rfl rfl (fun x209 h208 => ?_)
      refine e_icmp_eq (pc2 := 301) (tgt := 1073) hM rfl rfl rfl ?_ ?_
      · refine e_iinc (pc2 := 1076) (v := nI 7) (L2 := [some (.ref 0), some (.ref 1), some (.ref 40), some (.int (b3 + (nI 7)))]) hM rfl rfl rfl rfl rfl ?_
        refine e_goto (tgt := 18) hM rfl rfl ?_
        exact rfl
      · refine e_iconst (pc2 := 302) (v := nI 0) hM rfl rfl rfl ?_
        exact e_zret hM rfl rfl pm_01a
    refine s_cons (tgt := 303) rfl ?_ ?_
    · refine e_aload_n (pc2 := 304) hM rfl rfl rfl ?_
      refine e_aload_n (pc2 := 305) hM rfl rfl rfl ?_
      refine e_iload_n (pc2 := 306) hM rfl rfl rfl ?_
      refine e_iconst (pc2 := 307) (v := nI 1) hM rfl rfl rfl ?_
      refine e_iadd (pc2 := 308) hM rfl rfl ?_
      refine e_sld (pc2 := 309) hM rfl rfl (fun j194 => ?_)
      refine e_aload_n (pc2 := 310) hM rfl rfl rfl ?_
      refine e_iload_n (pc2 := 311) hM rfl rfl rfl ?_
      refine e_iconst (pc2 := 312) (v := nI 2) hM rfl rfl rfl ?_
      refine e_iadd (pc2 := 313) hM rfl rfl ?_
      refine e_sld (pc2 := 314) hM rfl rfl (fun j195 => ?_)
      refine e_cvi (pc2 := 317) (k := 0) (As := [.ref 1, .int (xs j194), .int (xs j195)]) (rest := []) hM rfl rfl rfl rfl rfl rfl rfl (fun x197 h196 => ?_)
      refine e_aload_n (pc2 := 318) hM rfl rfl rfl ?_
      refine e_aload_n (pc2 := 319) hM rfl rfl rfl ?_
      refine e_iload_n (pc2 := 320) hM rfl rfl rfl ?_
      refine e_iconst (pc2 := 321) (v := nI 1) hM rfl rfl rfl ?_
      refine e_iadd (pc2 := 322) hM rfl rfl ?_
      refine e_sld (pc2 := 323) hM rfl rfl (fun j198 => ?_)
      refine e_aload_n (pc2 := 324) hM rfl rfl rfl ?_
      refine e_iload_n (pc2 := 325) hM rfl rfl rfl ?_
      refine e_iconst (pc2 := 326) (v := nI 2) hM rfl rfl rfl ?_
      refine e_iadd (pc2 := 327) hM rfl rfl ?_
      refine e_sld (pc2 := 328) hM rfl rfl (fun j199 => ?_)
      refine e_cvi (pc2 := 331) (k := 39) (As := [.ref 40, .int (xs j198), .int (xs j199)]) (rest := [.int x197]) hM rfl rfl rfl rfl rfl rfl rfl (fun x201 h200 => ?_)
      refine e_icmp_eq (pc2 := 334) (tgt := 1073) hM rfl rfl rfl ?_ ?_
      · refine e_iinc (pc2 := 1076) (v := nI 7) (L2 := [some (.ref 0), some (.ref 1), some (.ref 40), some (.int (b3 + (nI 7)))]) hM rfl rfl rfl rfl rfl ?_
        refine e_goto (tgt := 18) hM rfl rfl ?_
        exact rfl
      · refine e_iconst (pc2 := 335) (v := nI 0) hM rfl rfl rfl ?_
        exact e_zret hM rfl rfl pm_01a
    refine s_cons (tgt := 336) rfl ?_ ?_
    · refine e_aload_n (pc2 := 337) hM rfl rfl rfl ?_
      refine e_aload_n (pc2 := 338) hM rfl rfl rfl ?_
      refine e_iload_n (pc2 := 339) hM rfl rfl rfl ?_
      refine e_iconst (pc2 := 340) (v := nI 1) hM rfl rfl rfl ?_
      refine e_iadd (pc2 := 341) hM rfl rfl ?_
      refine e_sld (pc2 := 342) hM rfl rfl (fun j186 => ?_)
      refine e_aload_n (pc2 := 343) hM rfl rfl rfl ?_
      refine e_iload_n (pc2 := 344) hM rfl rfl rfl ?_
      refine e_iconst (pc2 := 345) (v := nI 2) hM rfl rfl rfl ?_
      refine e_iadd (pc2 := 346) hM rfl rfl ?_
      refine e_sld (pc2 := 347) hM rfl rfl (fun j187 => ?_)
      refine e_cvi (pc2 := 350) (k := 0) (As := [.ref 1, .int (xs j186), .int (xs j187)]) (rest := []) hM rfl rfl rfl rfl rfl rfl rfl (fun x189 h188 => ?_)
      refine e_aload_n (pc2 := 351) hM rfl rfl rfl ?_
      refine e_aload_n (pc2 := 352) hM rfl rfl rfl ?_
      refine e_iload_n (pc2 := 353) hM rfl rfl rfl ?_
      refine e_iconst (pc2 := 354) (v := nI 1) hM rfl rfl rfl ?_
      refine e_iadd (pc2 := 355) hM rfl rfl ?_
      refine e_sld (pc2 := 356) hM rfl rfl (fun j190 => ?_)
      refine e_aload_n (pc2 := 357) hM rfl rfl rfl ?_
      refine e_iload_n (pc2 := 358) hM rfl rfl rfl ?_
      refine e_iconst (pc2 := 359) (v := nI 2) hM rfl rfl rfl ?_
      refine e_iadd (pc2 := 360) hM rfl rfl ?_
      refine e_sld (pc2 := 361) hM rfl rfl (fun j191 => ?_)
      refine e_cvi (pc2 := 364) (k := 39) (As := [.ref 40, .int (xs j190), .int (xs j191)]) (rest := [.int x189]) hM rfl rfl rfl rfl rfl rfl rfl (fun x193 h192 => ?_)
      refine e_icmp_eq (pc2 := 367) (tgt := 1073) hM rfl rfl rfl ?_ ?_
      · refine e_iinc (pc2 := 1076) (v := nI 7) (L2 := [some (.ref 0), some (.ref 1), some (.ref 40), some (.int (b3 + (nI 7)))]) hM rfl rfl rfl rfl rfl ?_
        refine e_goto (tgt := 18) hM rfl rfl ?_
        exact rfl
      · refine e_iconst (pc2 := 368) (v := nI 0) hM rfl rfl rfl ?_
        exact e_zret hM rfl rfl pm_01a
    refine s_cons (tgt := 369) rfl ?_ ?_
    · refine e_aload_n (pc2 := 370) hM rfl rfl rfl ?_
      refine e_aload_n (pc2 := 371) hM rfl rfl rfl ?_
      refine e_iload_n (pc2 := 372) hM rfl rfl rfl ?_
      refine e_iconst (pc2 := 373) (v := nI 1) hM rfl rfl rfl ?_
      refine e_iadd (pc2 := 374) hM rfl rfl ?_
      refine e_sld (pc2 := 375) hM rfl rfl (fun j178 => ?_)
      refine e_aload_n (pc2 := 376) hM rfl rfl rfl ?_
      refine e_iload_n (pc2 := 377) hM rfl rfl rfl ?_
      refine e_iconst (pc2 := 378) (v := nI 2) hM rfl rfl rfl ?_
      refine e_iadd (pc2 := 379) hM rfl rfl ?_
      refine e_sld (pc2 := 380) hM rfl rfl (fun j179 => ?_)
      refine e_cvi (pc2 := 383) (k := 0) (As := [.ref 1, .int (xs j178), .int (xs j179)]) (rest := []) hM rfl rfl rfl rfl rfl rfl rfl (fun x181 h180 => ?_)
      refine e_aload_n (pc2 := 384) hM rfl rfl rfl ?_
      refine e_aload_n (pc2 := 385) hM rfl rfl rfl ?_
      refine e_iload_n (pc2 := 386) hM rfl rfl rfl ?_
      refine e_iconst (pc2 := 387) (v := nI 1) hM rfl rfl rfl ?_
      refine e_iadd (pc2 := 388) hM rfl rfl ?_
      refine e_sld (pc2 := 389) hM rfl rfl (fun j182 => ?_)
      refine e_aload_n (pc2 := 390) hM rfl rfl rfl ?_
      refine e_iload_n (pc2 := 391) hM rfl rfl rfl ?_
      refine e_iconst (pc2 := 392) (v := nI 2) hM rfl rfl rfl ?_
      refine e_iadd (pc2 := 393) hM rfl rfl ?_
      refine e_sld (pc2 := 394) hM rfl rfl (fun j183 => ?_)
      refine e_cvi (pc2 := 397) (k := 39) (As := [.ref 40, .int (xs j182), .int (xs j183)]) (rest := [.int x181]) hM rfl rfl rfl rfl rfl rfl rfl (fun x185 h184 => ?_)
      refine e_icmp_eq (pc2 := 400) (tgt := 1073) hM rfl rfl rfl ?_ ?_
      · refine e_iinc (pc2 := 1076) (v := nI 7) (L2 := [some (.ref 0), some (.ref 1), some (.ref 40), some (.int (b3 + (nI 7)))]) hM rfl rfl rfl rfl rfl ?_
        refine e_goto (tgt := 18) hM rfl rfl ?_
        exact rfl
      · refine e_iconst (pc2 := 401) (v := nI 0) hM rfl rfl rfl ?_
        exact e_zret hM rfl rfl pm_01a
    refine s_cons (tgt := 402) rfl ?_ ?_
    · refine e_aload_n (pc2 := 403) hM rfl rfl rfl ?_
      refine e_aload_n (pc2 := 404) hM rfl rfl rfl ?_
      refine e_iload_n (pc2 := 405) hM rfl rfl rfl ?_
      refine e_iconst (pc2 := 406) (v := nI 1) hM rfl rfl rfl ?_
      refine e_iadd (pc2 := 407) hM rfl rfl ?_
      refine e_sld (pc2 := 408) hM rfl rfl (fun j170 => ?_)
      refine e_aload_n (pc2 := 409) hM rfl rfl rfl ?_
      refine e_iload_n (pc2 := 410) hM rfl rfl rfl ?_
      refine e_iconst (pc2 := 411) (v := nI 2) hM rfl rfl rfl ?_
      refine e_iadd (pc2 := 412) hM rfl rfl ?_
      refine e_sld (pc2 := 413) hM rfl rfl (fun j171 => ?_)
      refine e_cvi (pc2 := 416) (k := 0) (As := [.ref 1, .int (xs j170), .int (xs j171)]) (rest := []) hM rfl rfl rfl rfl rfl rfl rfl (fun x173 h172 => ?_)
      refine e_aload_n (pc2 := 417) hM rfl rfl rfl ?_
      refine e_aload_n (pc2 := 418) hM rfl rfl rfl ?_
      refine e_iload_n (pc2 := 419) hM rfl rfl rfl ?_
      refine e_iconst (pc2 := 420) (v := nI 1) hM rfl rfl rfl ?_
      refine e_iadd (pc2 := 421) hM rfl rfl ?_
      refine e_sld (pc2 := 422) hM rfl rfl (fun j174 => ?_)
      refine e_aload_n (pc2 := 423) hM rfl rfl rfl ?_
      refine e_iload_n (pc2 := 424) hM rfl rfl rfl ?_
      refine e_iconst (pc2 := 425) (v := nI 2) hM rfl rfl rfl ?_
      refine e_iadd (pc2 := 426) hM rfl rfl ?_
      refine e_sld (pc2 := 427) hM rfl rfl (fun j175 => ?_)
      refine e_cvi (pc2 := 430) (k := 39) (As := [.ref 40, .int (xs j174), .int (xs j175)]) (rest := [.int x173]) hM rfl rfl rfl rfl rfl rfl rfl (fun x177 h176 => ?_)
      refine e_icmp_eq (pc2 := 433) (tgt := 1073) hM rfl rfl rfl ?_ ?_
      · refine e_iinc (pc2 := 1076) (v := nI 7) (L2 := [some (.ref 0), some (.ref 1), some (.ref 40), some (.int (b3 + (nI 7)))]) hM rfl rfl rfl rfl rfl ?_
        refine e_goto (tgt := 18) hM rfl rfl ?_
        exact rfl
      · refine e_iconst (pc2 := 434) (v := nI 0) hM rfl rfl rfl ?_
        exact e_zret hM rfl rfl pm_01a
    refine s_cons (tgt := 435) rfl ?_ ?_
    · refine e_aload_n (pc2 := 436) hM rfl rfl rfl ?_
      refine e_aload_n (pc2 := 437) hM rfl rfl rfl ?_
      refine e_iload_n (pc2 := 438) hM rfl rfl rfl ?_
      refine e_iconst (pc2 := 439) (v := nI 1) hM rfl rfl rfl ?_
      refine e_iadd (pc2 := 440) hM rfl rfl ?_
      refine e_sld (pc2 := 441) hM rfl rfl (fun j164 => ?_)
      refine e_cvi (pc2 := 444) (k := 0) (As := [.ref 1, .int (xs j164)]) (rest := []) hM rfl rfl rfl rfl rfl rfl rfl (fun x166 h165 => ?_)
      refine e_aload_n (pc2 := 445) hM rfl rfl rfl ?_
      refine e_aload_n (pc2 := 446) hM rfl rfl rfl ?_
      refine e_iload_n (pc2 := 447) hM rfl rfl rfl ?_
      refine e_iconst (pc2 := 448) (v := nI 1) hM rfl rfl rfl ?_
      refine e_iadd (pc2 := 449) hM rfl rfl ?_
      refine e_sld (pc2 := 450) hM rfl rfl (fun j167 => ?_)
      refine e_cvi (pc2 := 453) (k := 39) (As := [.ref 40, .int (xs j167)]) (rest := [.int x166]) hM rfl rfl rfl rfl rfl rfl rfl (fun x169 h168 => ?_)
      refine e_icmp_eq (pc2 := 456) (tgt := 1073) hM rfl rfl rfl ?_ ?_
      · refine e_iinc (pc2 := 1076) (v := nI 7) (L2 := [some (.ref 0), some (.ref 1), some (.ref 40), some (.int (b3 + (nI 7)))]) hM rfl rfl rfl rfl rfl ?_
        refine e_goto (tgt := 18) hM rfl rfl ?_
        exact rfl
      · refine e_iconst (pc2 := 457) (v := nI 0) hM rfl rfl rfl ?_
        exact e_zret hM rfl rfl pm_01a
    refine s_cons (tgt := 458) rfl ?_ ?_
    · refine e_aload_n (pc2 := 459) hM rfl rfl rfl ?_
      refine e_cvi (pc2 := 462) (k := 0) (As := [.ref 1]) (rest := []) hM rfl rfl rfl rfl rfl rfl rfl (fun x161 h160 => ?_)
      refine e_aload_n (pc2 := 463) hM rfl rfl rfl ?_
      refine e_cvi (pc2 := 466) (k := 39) (As := [.ref 40]) (rest := [.int x161]) hM rfl rfl rfl rfl rfl rfl rfl (fun x163 h162 => ?_)
      refine e_icmp_eq (pc2 := 469) (tgt := 1073) hM rfl rfl rfl ?_ ?_
      · refine e_iinc (pc2 := 1076) (v := nI 7) (L2 := [some (.ref 0), some (.ref 1), some (.ref 40), some (.int (b3 + (nI 7)))]) hM rfl rfl rfl rfl rfl ?_
        refine e_goto (tgt := 18) hM rfl rfl ?_
        exact rfl
      · refine e_iconst (pc2 := 470) (v := nI 0) hM rfl rfl rfl ?_
        exact e_zret hM rfl rfl pm_01a
    refine s_cons (tgt := 471) rfl ?_ ?_
    · refine e_aload_n (pc2 := 472) hM rfl rfl rfl ?_
      refine e_aload_n (pc2 := 473) hM rfl rfl rfl ?_
      refine e_iload_n (pc2 := 474) hM rfl rfl rfl ?_
      refine e_iconst (pc2 := 475) (v := nI 1) hM rfl rfl rfl ?_
      refine e_iadd (pc2 := 476) hM rfl rfl ?_
      refine e_sld (pc2 := 477) hM rfl rfl (fun j154 => ?_)
      refine e_cvi (pc2 := 480) (k := 0) (As := [.ref 1, .int (xs j154)]) (rest := []) hM rfl rfl rfl rfl rfl rfl rfl (fun x156 h155 => ?_)
      refine e_aload_n (pc2 := 481) hM rfl rfl rfl ?_
      refine e_aload_n (pc2 := 482) hM rfl rfl rfl ?_
      refine e_iload_n (pc2 := 483) hM rfl rfl rfl ?_
      refine e_iconst (pc2 := 484) (v := nI 1) hM rfl rfl rfl ?_
      refine e_iadd (pc2 := 485) hM rfl rfl ?_
      refine e_sld (pc2 := 486) hM rfl rfl (fun j157 => ?_)
      refine e_cvi (pc2 := 489) (k := 39) (As := [.ref 40, .int (xs j157)]) (rest := [.int x156]) hM rfl rfl rfl rfl rfl rfl rfl (fun x159 h158 => ?_)
      refine e_icmp_eq (pc2 := 492) (tgt := 1073) hM rfl rfl rfl ?_ ?_
      · refine e_iinc (pc2 := 1076) (v := nI 7) (L2 := [some (.ref 0), some (.ref 1), some (.ref 40), some (.int (b3 + (nI 7)))]) hM rfl rfl rfl rfl rfl ?_
        refine e_goto (tgt := 18) hM rfl rfl ?_
        exact rfl
      · refine e_iconst (pc2 := 493) (v := nI 0) hM rfl rfl rfl ?_
        exact e_zret hM rfl rfl pm_01a
    refine s_cons (tgt := 494) rfl ?_ ?_
    · refine e_aload_n (pc2 := 495) hM rfl rfl rfl ?_
      refine e_cvi (pc2 := 498) (k := 0) (As := [.ref 1]) (rest := []) hM rfl rfl rfl rfl rfl rfl rfl (fun x151 h150 => ?_)
      refine e_aload_n (pc2 := 499) hM rfl rfl rfl ?_
      refine e_cvi (pc2 := 502) (k := 39) (As := [.ref 40]) (rest := [.int x151]) hM rfl rfl rfl rfl rfl rfl rfl (fun x153 h152 => ?_)
      refine e_icmp_eq (pc2 := 505) (tgt := 1073) hM rfl rfl rfl ?_ ?_
      · refine e_iinc (pc2 := 1076) (v := nI 7) (L2 := [some (.ref 0), some (.ref 1), some (.ref 40), some (.int (b3 + (nI 7)))]) hM rfl rfl rfl rfl rfl ?_
        refine e_goto (tgt := 18) hM rfl rfl ?_
        exact rfl
      · refine e_iconst (pc2 := 506) (v := nI 0) hM rfl rfl rfl ?_
        exact e_zret hM rfl rfl pm_01a
    refine s_cons (tgt := 507) rfl ?_ ?_
    · refine e_aload_n (pc2 := 508) hM rfl rfl rfl ?_
      refine e_aload_n (pc2 := 509) hM rfl rfl rfl ?_
      refine e_iload_n (pc2 := 510) hM rfl rfl rfl ?_
      refine e_iconst (pc2 := 511) (v := nI 1) hM rfl rfl rfl ?_
      refine e_iadd (pc2 := 512) hM rfl rfl ?_
      refine e_sld (pc2 := 513) hM rfl rfl (fun j144 => ?_)
      refine e_cvi (pc2 := 516) (k := 0) (As := [.ref 1, .int (xs j144)]) (rest := []) hM rfl rfl rfl rfl rfl rfl rfl (fun x146 h145 => ?_)
      refine e_aload_n (pc2 := 517) hM rfl rfl rfl ?_
      refine e_aload_n (pc2 := 518) hM rfl rfl rfl ?_
      refine e_iload_n (pc2 := 519) hM rfl rfl rfl ?_
      refine e_iconst (pc2 := 520) (v := nI 1) hM rfl rfl rfl ?_
      refine e_iadd (pc2 := 521) hM rfl rfl ?_
      refine e_sld (pc2 := 522) hM rfl rfl (fun j147 => ?_)
      refine e_cvi (pc2 := 525) (k := 39) (As := [.ref 40, .int (xs j147)]) (rest := [.int x146]) hM rfl rfl rfl rfl rfl rfl rfl (fun x149 h148 => ?_)
      refine e_icmp_eq (pc2 := 528) (tgt := 1073) hM rfl rfl rfl ?_ ?_
      · refine e_iinc (pc2 := 1076) (v := nI 7) (L2 := [some (.ref 0), some (.ref 1), some (.ref 40), some (.int (b3 + (nI 7)))]) hM rfl rfl rfl rfl rfl ?_
        refine e_goto (tgt := 18) hM rfl rfl ?_
        exact rfl
      · refine e_iconst (pc2 := 529) (v := nI 0) hM rfl rfl rfl ?_
        exact e_zret hM rfl rfl pm_01a
    refine s_cons (tgt := 530) rfl ?_ ?_
    · refine e_aload_n (pc2 := 531) hM rfl rfl rfl ?_
      refine e_aload_n (pc2 := 532) hM rfl rfl rfl ?_
      refine e_iload_n (pc2 := 533) hM rfl rfl rfl ?_
      refine e_iconst (pc2 := 534) (v := nI 1) hM rfl rfl rfl ?_
      refine e_iadd (pc2 := 535) hM rfl rfl ?_
      refine e_sld (pc2 := 536) hM rfl rfl (fun j134 => ?_)
      refine e_aload_n (pc2 := 537) hM rfl rfl rfl ?_
      refine e_iload_n (pc2 := 538) hM rfl rfl rfl ?_
      refine e_iconst (pc2 := 539) (v := nI 2) hM rfl rfl rfl ?_
      refine e_iadd (pc2 := 540) hM rfl rfl ?_
      refine e_sld (pc2 := 541) hM rfl rfl (fun j135 => ?_)
      refine e_aload_n (pc2 := 542) hM rfl rfl rfl ?_
      refine e_iload_n (pc2 := 543) hM rfl rfl rfl ?_
      refine e_iconst (pc2 := 544) (v := nI 3) hM rfl rfl rfl ?_
      refine e_iadd (pc2 := 545) hM rfl rfl ?_
      refine e_sld (pc2 := 546) hM rfl rfl (fun j136 => ?_)
      refine e_cvi (pc2 := 549) (k := 0) (As := [.ref 1, .int (xs j134), .int (xs j135), .int (xs j136)]) (rest := []) hM rfl rfl rfl rfl rfl rfl rfl (fun x138 h137 => ?_)
      refine e_aload_n (pc2 := 550) hM rfl rfl rfl ?_
      refine e_aload_n (pc2 := 551) hM rfl rfl rfl ?_
      refine e_iload_n (pc2 := 552) hM rfl rfl rfl ?_
      refine e_iconst (pc2 := 553) (v := nI 1) hM rfl rfl rfl ?_
      refine e_iadd (pc2 := 554) hM rfl rfl ?_
      refine e_sld (pc2 := 555) hM rfl rfl (fun j139 => ?_)
      refine e_aload_n (pc2 := 556) hM rfl rfl rfl ?_
      refine e_iload_n (pc2 := 557) hM rfl rfl rfl ?_
      refine e_iconst (pc2 := 558) (v := nI 2) hM rfl rfl rfl ?_
      refine e_iadd (pc2 := 559) hM rfl rfl ?_
      refine e_sld (pc2 := 560) hM rfl rfl (fun j140 => ?_)
      refine e_aload_n (pc2 := 561) hM rfl rfl rfl ?_
      refine e_iload_n (pc2 := 562) hM rfl rfl rfl ?_
      refine e_iconst (pc2 := 563) (v := nI 3) hM rfl rfl rfl ?_
      refine e_iadd (pc2 := 564) hM rfl rfl ?_
      refine e_sld (pc2 := 565) hM rfl rfl (fun j141 => ?_)
      refine e_cvi (pc2 := 568) (k := 39) (As := [.ref 40, .int (xs j139), .int (xs j140), .int (xs j141)]) (rest := [.int x138]) hM rfl rfl rfl rfl rfl rfl rfl (fun x143 h142 => ?_)
      refine e_icmp_eq (pc2 := 571) (tgt := 1073) hM rfl rfl rfl ?_ ?_
      · refine e_iinc (pc2 := 1076) (v := nI 7) (L2 := [some (.ref 0), some (.ref 1), some (.ref 40), some (.int (b3 + (nI 7)))]) hM rfl rfl rfl rfl rfl ?_
        refine e_goto (tgt := 18) hM rfl rfl ?_
        exact rfl
      · refine e_iconst (pc2 := 572) (v := nI 0) hM rfl rfl rfl ?_
        exact e_zret hM rfl rfl pm_01a
    refine s_cons (tgt := 573) rfl ?_ ?_
    · refine e_aload_n (pc2 := 574) hM rfl rfl rfl ?_
      refine e_aload_n (pc2 := 575) hM rfl rfl rfl ?_
      refine e_iload_n (pc2 := 576) hM rfl rfl rfl ?_
      refine e_iconst (pc2 := 577) (v := nI 1) hM rfl rfl rfl ?_
      refine e_iadd (pc2 := 578) hM rfl rfl ?_
      refine e_sld (pc2 := 579) hM rfl rfl (fun j128 => ?_)
      refine e_cvi (pc2 := 582) (k := 0) (As := [.ref 1, .int (xs j128)]) (rest := []) hM rfl rfl rfl rfl rfl rfl rfl (fun x130 h129 => ?_)
      refine e_aload_n (pc2 := 583) hM rfl rfl rfl ?_
      refine e_aload_n (pc2 := 584) hM rfl rfl rfl ?_
      refine e_iload_n (pc2 := 585) hM rfl rfl rfl ?_
      refine e_iconst (pc2 := 586) (v := nI 1) hM rfl rfl rfl ?_
      refine e_iadd (pc2 := 587) hM rfl rfl ?_
      refine e_sld (pc2 := 588) hM rfl rfl (fun j131 => ?_)
      refine e_cvi (pc2 := 591) (k := 39) (As := [.ref 40, .int (xs j131)]) (rest := [.int x130]) hM rfl rfl rfl rfl rfl rfl rfl (fun x133 h132 => ?_)
      refine e_icmp_eq (pc2 := 594) (tgt := 1073) hM rfl rfl rfl ?_ ?_
      · refine e_iinc (pc2 := 1076) (v := nI 7) (L2 := [some (.ref 0), some (.ref 1), some (.ref 40), some (.int (b3 + (nI 7)))]) hM rfl rfl rfl rfl rfl ?_
        refine e_goto (tgt := 18) hM rfl rfl ?_
        exact rfl
      · refine e_iconst (pc2 := 595) (v := nI 0) hM rfl rfl rfl ?_
        exact e_zret hM rfl rfl pm_01a
    refine s_cons (tgt := 596) rfl ?_ ?_
    · refine e_aload_n (pc2 := 597) hM rfl rfl rfl ?_
      refine e_aload_n (pc2 := 598) hM rfl rfl rfl ?_
      refine e_iload_n (pc2 := 599) hM rfl rfl rfl ?_
      refine e_iconst (pc2 := 600) (v := nI 1) hM rfl rfl rfl ?_
      refine e_iadd (pc2 := 601) hM rfl rfl ?_
      refine e_sld (pc2 := 602) hM rfl rfl (fun j110 => ?_)
      refine e_aload_n (pc2 := 603) hM rfl rfl rfl ?_
      refine e_iload_n (pc2 := 604) hM rfl rfl rfl ?_
      refine e_iconst (pc2 := 605) (v := nI 2) hM rfl rfl rfl ?_
      refine e_iadd (pc2 := 606) hM rfl rfl ?_
      refine e_sld (pc2 := 607) hM rfl rfl (fun j111 => ?_)
      refine e_if_eq (pc2 := 610) (tgt := 614) hM rfl rfl rfl ?_ ?_
      · refine e_iconst (pc2 := 615) (v := nI 0) hM rfl rfl rfl ?_
        refine e_cvi (pc2 := 618) (k := 0) (As := [.ref 1, .int (xs j110), .int (nI 0)]) (rest := []) hM rfl rfl rfl rfl rfl rfl rfl (fun x113 h112 => ?_)
        refine e_aload_n (pc2 := 619) hM rfl rfl rfl ?_
        refine e_aload_n (pc2 := 620) hM rfl rfl rfl ?_
        refine e_iload_n (pc2 := 621) hM rfl rfl rfl ?_
        refine e_iconst (pc2 := 622) (v := nI 1) hM rfl rfl rfl ?_
        refine e_iadd (pc2 := 623) hM rfl rfl ?_
        refine e_sld (pc2 := 624) hM rfl rfl (fun j114 => ?_)
        refine e_aload_n (pc2 := 625) hM rfl rfl rfl ?_
        refine e_iload_n (pc2 := 626) hM rfl rfl rfl ?_
        refine e_iconst (pc2 := 627) (v := nI 2) hM rfl rfl rfl ?_
        refine e_iadd (pc2 := 628) hM rfl rfl ?_
        refine e_sld (pc2 := 629) hM rfl rfl (fun j115 => ?_)
        refine e_if_eq (pc2 := 632) (tgt := 636) hM rfl rfl rfl ?_ ?_
        · refine e_iconst (pc2 := 637) (v := nI 0) hM rfl rfl rfl ?_
          refine e_cvi (pc2 := 640) (k := 39) (As := [.ref 40, .int (xs j114), .int (nI 0)]) (rest := [.int x113]) hM rfl rfl rfl rfl rfl rfl rfl (fun x117 h116 => ?_)
          refine e_icmp_eq (pc2 := 643) (tgt := 1073) hM rfl rfl rfl ?_ ?_
          · refine e_iinc (pc2 := 1076) (v := nI 7) (L2 := [some (.ref 0), some (.ref 1), some (.ref 40), some (.int (b3 + (nI 7)))]) hM rfl rfl rfl rfl rfl ?_
            refine e_goto (tgt := 18) hM rfl rfl ?_
            exact rfl
          · refine e_iconst (pc2 := 644) (v := nI 0) hM rfl rfl rfl ?_
            exact e_zret hM rfl rfl pm_01a
        · refine e_iconst (pc2 := 633) (v := nI 1) hM rfl rfl rfl ?_
          refine e_goto (tgt := 637) hM rfl rfl ?_
          refine e_cvi (pc2 := 640) (k := 39) (As := [.ref 40, .int (xs j114), .int (nI 1)]) (rest := [.int x113]) hM rfl rfl rfl rfl rfl rfl rfl (fun x119 h118 => ?_)
          refine e_icmp_eq (pc2 := 643) (tgt := 1073) hM rfl rfl rfl ?_ ?_
          · refine e_iinc (pc2 := 1076) (v := nI 7) (L2 := [some (.ref 0), some (.ref 1), some (.ref 40), some (.int (b3 + (nI 7)))]) hM rfl rfl rfl rfl rfl ?_
            refine e_goto (tgt := 18) hM rfl rfl ?_
            exact rfl
          · refine e_iconst (pc2 := 644) (v := nI 0) hM rfl rfl rfl ?_
            exact e_zret hM rfl rfl pm_01a
      · refine e_iconst (pc2 := 611) (v := nI 1) hM rfl rfl rfl ?_
        refine e_goto (tgt := 615) hM rfl rfl ?_
        refine e_cvi (pc2 := 618) (k := 0) (As := [.ref 1, .int (xs j110), .int (nI 1)]) (rest := []) hM rfl rfl rfl rfl rfl rfl rfl (fun x121 h120 => ?_)
        refine e_aload_n (pc2 := 619) hM rfl rfl rfl ?_
        refine e_aload_n (pc2 := 620) hM rfl rfl rfl ?_
        refine e_iload_n (pc2 := 621) hM rfl rfl rfl ?_
        refine e_iconst (pc2 := 622) (v := nI 1) hM rfl rfl rfl ?_
        refine e_iadd (pc2 := 623) hM rfl rfl ?_
        refine e_sld (pc2 := 624) hM rfl rfl (fun j122 => ?_)
        refine e_aload_n (pc2 := 625) hM rfl rfl rfl ?_
        refine e_iload_n (pc2 := 626) hM rfl rfl rfl ?_
        refine e_iconst (pc2 := 627) (v := nI 2) hM rfl rfl rfl ?_
        refine e_iadd (pc2 := 628) hM rfl rfl ?_
        refine e_sld (pc2 := 629) hM rfl rfl (fun j123 => ?_)
        refine e_if_eq (pc2 := 632) (tgt := 636) hM rfl rfl rfl ?_ ?_
        · refine e_iconst (pc2 := 637) (v := nI 0) hM rfl rfl rfl ?_
          refine e_cvi (pc2 := 640) (k := 39) (As := [.ref 40, .int (xs j122), .int (nI 0)]) (rest := [.int x121]) hM rfl rfl rfl rfl rfl rfl rfl (fun x125 h124 => ?_)
          refine e_icmp_eq (pc2 := 643) (tgt := 1073) hM rfl rfl rfl ?_ ?_
          · refine e_iinc (pc2 := 1076) (v := nI 7) (L2 := [some (.ref 0), some (.ref 1), some (.ref 40), some (.int (b3 + (nI 7)))]) hM rfl rfl rfl rfl rfl ?_
            refine e_goto (tgt := 18) hM rfl rfl ?_
            exact rfl
          · refine e_iconst (pc2 := 644) (v := nI 0) hM rfl rfl rfl ?_
            exact e_zret hM rfl rfl pm_01a
        · refine e_iconst (pc2 := 633) (v := nI 1) hM rfl rfl rfl ?_
          refine e_goto (tgt := 637) hM rfl rfl ?_
          refine e_cvi (pc2 := 640) (k := 39) (As := [.ref 40, .int (xs j122), .int (nI 1)]) (rest := [.int x121]) hM rfl rfl rfl rfl rfl rfl rfl (fun x127 h126 => ?_)
          refine e_icmp_eq (pc2 := 643) (tgt := 1073) hM rfl rfl rfl ?_ ?_
          · refine e_iinc (pc2 := 1076) (v := nI 7) (L2 := [some (.ref 0), some (.ref 1), some (.ref 40), some (.int (b3 + (nI 7)))]) hM rfl rfl rfl rfl rfl ?_
            refine e_goto (tgt := 18) hM rfl rfl ?_
            exact rfl
          · refine e_iconst (pc2 := 644) (v := nI 0) hM rfl rfl rfl ?_
            exact e_zret hM rfl rfl pm_01a
    refine s_cons (tgt := 645) rfl ?_ ?_
    · refine e_aload_n (pc2 := 646) hM rfl rfl rfl ?_
      refine e_aload_n (pc2 := 647) hM rfl rfl rfl ?_
      refine e_iload_n (pc2 := 648) hM rfl rfl rfl ?_
      refine e_iconst (pc2 := 649) (v := nI 1) hM rfl rfl rfl ?_
      refine e_iadd (pc2 := 650) hM rfl rfl ?_
      refine e_sld (pc2 := 651) hM rfl rfl (fun j102 => ?_)
      refine e_aload_n (pc2 := 652) hM rfl rfl rfl ?_
      refine e_iload_n (pc2 := 653) hM rfl rfl rfl ?_
      refine e_iconst (pc2 := 654) (v := nI 2) hM rfl rfl rfl ?_
      refine e_iadd (pc2 := 655) hM rfl rfl ?_
      refine e_sld (pc2 := 656) hM rfl rfl (fun j103 => ?_)
      refine e_cvi (pc2 := 659) (k := 0) (As := [.ref 1, .int (xs j102), .int (xs j103)]) (rest := []) hM rfl rfl rfl rfl rfl rfl rfl (fun x105 h104 => ?_)
      refine e_aload_n (pc2 := 660) hM rfl rfl rfl ?_
      refine e_aload_n (pc2 := 661) hM rfl rfl rfl ?_
      refine e_iload_n (pc2 := 662) hM rfl rfl rfl ?_
      refine e_iconst (pc2 := 663) (v := nI 1) hM rfl rfl rfl ?_
      refine e_iadd (pc2 := 664) hM rfl rfl ?_
      refine e_sld (pc2 := 665) hM rfl rfl (fun j106 => ?_)
      refine e_aload_n (pc2 := 666) hM rfl rfl rfl ?_
      refine e_iload_n (pc2 := 667) hM rfl rfl rfl ?_
      refine e_iconst (pc2 := 668) (v := nI 2) hM rfl rfl rfl ?_
      refine e_iadd (pc2 := 669) hM rfl rfl ?_
      refine e_sld (pc2 := 670) hM rfl rfl (fun j107 => ?_)
      refine e_cvi (pc2 := 673) (k := 39) (As := [.ref 40, .int (xs j106), .int (xs j107)]) (rest := [.int x105]) hM rfl rfl rfl rfl rfl rfl rfl (fun x109 h108 => ?_)
      refine e_icmp_eq (pc2 := 676) (tgt := 1073) hM rfl rfl rfl ?_ ?_
      · refine e_iinc (pc2 := 1076) (v := nI 7) (L2 := [some (.ref 0), some (.ref 1), some (.ref 40), some (.int (b3 + (nI 7)))]) hM rfl rfl rfl rfl rfl ?_
        refine e_goto (tgt := 18) hM rfl rfl ?_
        exact rfl
      · refine e_iconst (pc2 := 677) (v := nI 0) hM rfl rfl rfl ?_
        exact e_zret hM rfl rfl pm_01a
    refine s_cons (tgt := 678) rfl ?_ ?_
    · refine e_aload_n (pc2 := 679) hM rfl rfl rfl ?_
      refine e_aload_n (pc2 := 680) hM rfl rfl rfl ?_
      refine e_iload_n (pc2 := 681) hM rfl rfl rfl ?_
      refine e_iconst (pc2 := 682) (v := nI 1) hM rfl rfl rfl ?_
      refine e_iadd (pc2 := 683) hM rfl rfl ?_
      refine e_sld (pc2 := 684) hM rfl rfl (fun j94 => ?_)
      refine e_aload_n (pc2 := 685) hM rfl rfl rfl ?_
      refine e_iload_n (pc2 := 686) hM rfl rfl rfl ?_
      refine e_iconst (pc2 := 687) (v := nI 2) hM rfl rfl rfl ?_
      refine e_iadd (pc2 := 688) hM rfl rfl ?_
      refine e_sld (pc2 := 689) hM rfl rfl (fun j95 => ?_)
      refine e_cvi (pc2 := 692) (k := 0) (As := [.ref 1, .int (xs j94), .int (xs j95)]) (rest := []) hM rfl rfl rfl rfl rfl rfl rfl (fun x97 h96 => ?_)
      refine e_aload_n (pc2 := 693) hM rfl rfl rfl ?_
      refine e_aload_n (pc2 := 694) hM rfl rfl rfl ?_
      refine e_iload_n (pc2 := 695) hM rfl rfl rfl ?_
      refine e_iconst (pc2 := 696) (v := nI 1) hM rfl rfl rfl ?_
      refine e_iadd (pc2 := 697) hM rfl rfl ?_
      refine e_sld (pc2 := 698) hM rfl rfl (fun j98 => ?_)
      refine e_aload_n (pc2 := 699) hM rfl rfl rfl ?_
      refine e_iload_n (pc2 := 700) hM rfl rfl rfl ?_
      refine e_iconst (pc2 := 701) (v := nI 2) hM rfl rfl rfl ?_
      refine e_iadd (pc2 := 702) hM rfl rfl ?_
      refine e_sld (pc2 := 703) hM rfl rfl (fun j99 => ?_)
      refine e_cvi (pc2 := 706) (k := 39) (As := [.ref 40, .int (xs j98), .int (xs j99)]) (rest := [.int x97]) hM rfl rfl rfl rfl rfl rfl rfl (fun x101 h100 => ?_)
      refine e_icmp_eq (pc2 := 709) (tgt := 1073) hM rfl rfl rfl ?_ ?_
      · refine e_iinc (pc2 := 1076) (v := nI 7) (L2 := [some (.ref 0), some (.ref 1), some (.ref 40), some (.int (b3 + (nI 7)))]) hM rfl rfl rfl rfl rfl ?_
        refine e_goto (tgt := 18) hM rfl rfl ?_
        exact rfl
      · refine e_iconst (pc2 := 710) (v := nI 0) hM rfl rfl rfl ?_
        exact e_zret hM rfl rfl pm_01a
    refine s_cons (tgt := 711) rfl ?_ ?_
    · refine e_aload_n (pc2 := 712) hM rfl rfl rfl ?_
      refine e_aload_n (pc2 := 713) hM rfl rfl rfl ?_
      refine e_iload_n (pc2 := 714) hM rfl rfl rfl ?_
      refine e_iconst (pc2 := 715) (v := nI 1) hM rfl rfl rfl ?_
      refine e_iadd (pc2 := 716) hM rfl rfl ?_
      refine e_sld (pc2 := 717) hM rfl rfl (fun j86 => ?_)
      refine e_aload_n (pc2 := 718) hM rfl rfl rfl ?_
      refine e_iload_n (pc2 := 719) hM rfl rfl rfl ?_
      refine e_iconst (pc2 := 720) (v := nI 2) hM rfl rfl rfl ?_
      refine e_iadd (pc2 := 721) hM rfl rfl ?_
      refine e_sld (pc2 := 722) hM rfl rfl (fun j87 => ?_)
      refine e_cvi (pc2 := 725) (k := 0) (As := [.ref 1, .int (xs j86), .int (xs j87)]) (rest := []) hM rfl rfl rfl rfl rfl rfl rfl (fun x89 h88 => ?_)
      refine e_aload_n (pc2 := 726) hM rfl rfl rfl ?_
      refine e_aload_n (pc2 := 727) hM rfl rfl rfl ?_
      refine e_iload_n (pc2 := 728) hM rfl rfl rfl ?_
      refine e_iconst (pc2 := 729) (v := nI 1) hM rfl rfl rfl ?_
      refine e_iadd (pc2 := 730) hM rfl rfl ?_
      refine e_sld (pc2 := 731) hM rfl rfl (fun j90 => ?_)
      refine e_aload_n (pc2 := 732) hM rfl rfl rfl ?_
      refine e_iload_n (pc2 := 733) hM rfl rfl rfl ?_
      refine e_iconst (pc2 := 734) (v := nI 2) hM rfl rfl rfl ?_
      refine e_iadd (pc2 := 735) hM rfl rfl ?_
      refine e_sld (pc2 := 736) hM rfl rfl (fun j91 => ?_)
      refine e_cvi (pc2 := 739) (k := 39) (As := [.ref 40, .int (xs j90), .int (xs j91)]) (rest := [.int x89]) hM rfl rfl rfl rfl rfl rfl rfl (fun x93 h92 => ?_)
      refine e_icmp_eq (pc2 := 742) (tgt := 1073) hM rfl rfl rfl ?_ ?_
      · refine e_iinc (pc2 := 1076) (v := nI 7) (L2 := [some (.ref 0), some (.ref 1), some (.ref 40), some (.int (b3 + (nI 7)))]) hM rfl rfl rfl rfl rfl ?_
        refine e_goto (tgt := 18) hM rfl rfl ?_
        exact rfl
      · refine e_iconst (pc2 := 743) (v := nI 0) hM rfl rfl rfl ?_
        exact e_zret hM rfl rfl pm_01a
    refine s_cons (tgt := 744) rfl ?_ ?_
    · refine e_aload_n (pc2 := 745) hM rfl rfl rfl ?_
      refine e_cvi (pc2 := 748) (k := 0) (As := [.ref 1]) (rest := []) hM rfl rfl rfl rfl rfl rfl rfl (fun x83 h82 => ?_)
      refine e_aload_n (pc2 := 749) hM rfl rfl rfl ?_
      refine e_cvi (pc2 := 752) (k := 39) (As := [.ref 40]) (rest := [.int x83]) hM rfl rfl rfl rfl rfl rfl rfl (fun x85 h84 => ?_)
      refine e_icmp_eq (pc2 := 755) (tgt := 1073) hM rfl rfl rfl ?_ ?_
      · refine e_iinc (pc2 := 1076) (v := nI 7) (L2 := [some (.ref 0), some (.ref 1), some (.ref 40), some (.int (b3 + (nI 7)))]) hM rfl rfl rfl rfl rfl ?_
        refine e_goto (tgt := 18) hM rfl rfl ?_
        exact rfl
      · refine e_iconst (pc2 := 756) (v := nI 0) hM rfl rfl rfl ?_
        exact e_zret hM rfl rfl pm_01a
    refine s_cons (tgt := 757) rfl ?_ ?_
    · refine e_aload_n (pc2 := 758) hM rfl rfl rfl ?_
      refine e_aload_n (pc2 := 759) hM rfl rfl rfl ?_
      refine e_iload_n (pc2 := 760) hM rfl rfl rfl ?_
      refine e_iconst (pc2 := 761) (v := nI 1) hM rfl rfl rfl ?_
      refine e_iadd (pc2 := 762) hM rfl rfl ?_
      refine e_sld (pc2 := 763) hM rfl rfl (fun j74 => ?_)
      refine e_aload_n (pc2 := 764) hM rfl rfl rfl ?_
      refine e_iload_n (pc2 := 765) hM rfl rfl rfl ?_
      refine e_iconst (pc2 := 766) (v := nI 2) hM rfl rfl rfl ?_
      refine e_iadd (pc2 := 767) hM rfl rfl ?_
      refine e_sld (pc2 := 768) hM rfl rfl (fun j75 => ?_)
      refine e_cvi (pc2 := 771) (k := 0) (As := [.ref 1, .int (xs j74), .int (xs j75)]) (rest := []) hM rfl rfl rfl rfl rfl rfl rfl (fun x77 h76 => ?_)
      refine e_aload_n (pc2 := 772) hM rfl rfl rfl ?_
      refine e_aload_n (pc2 := 773) hM rfl rfl rfl ?_
      refine e_iload_n (pc2 := 774) hM rfl rfl rfl ?_
      refine e_iconst (pc2 := 775) (v := nI 1) hM rfl rfl rfl ?_
      refine e_iadd (pc2 := 776) hM rfl rfl ?_
      refine e_sld (pc2 := 777) hM rfl rfl (fun j78 => ?_)
      refine e_aload_n (pc2 := 778) hM rfl rfl rfl ?_
      refine e_iload_n (pc2 := 779) hM rfl rfl rfl ?_
      refine e_iconst (pc2 := 780) (v := nI 2) hM rfl rfl rfl ?_
      refine e_iadd (pc2 := 781) hM rfl rfl ?_
      refine e_sld (pc2 := 782) hM rfl rfl (fun j79 => ?_)
      refine e_cvi (pc2 := 785) (k := 39) (As := [.ref 40, .int (xs j78), .int (xs j79)]) (rest := [.int x77]) hM rfl rfl rfl rfl rfl rfl rfl (fun x81 h80 => ?_)
      refine e_icmp_eq (pc2 := 788) (tgt := 1073) hM rfl rfl rfl ?_ ?_
      · refine e_iinc (pc2 := 1076) (v := nI 7) (L2 := [some (.ref 0), some (.ref 1), some (.ref 40), some (.int (b3 + (nI 7)))]) hM rfl rfl rfl rfl rfl ?_
        refine e_goto (tgt := 18) hM rfl rfl ?_
        exact rfl
      · refine e_iconst (pc2 := 789) (v := nI 0) hM rfl rfl rfl ?_
        exact e_zret hM rfl rfl pm_01a
    refine s_cons (tgt := 790) rfl ?_ ?_
    · refine e_aload_n (pc2 := 791) hM rfl rfl rfl ?_
      refine e_cvi (pc2 := 794) (k := 0) (As := [.ref 1]) (rest := []) hM rfl rfl rfl rfl rfl rfl rfl (fun x71 h70 => ?_)
      refine e_aload_n (pc2 := 795) hM rfl rfl rfl ?_
      refine e_cvi (pc2 := 798) (k := 39) (As := [.ref 40]) (rest := [.int x71]) hM rfl rfl rfl rfl rfl rfl rfl (fun x73 h72 => ?_)
      refine e_icmp_eq (pc2 := 801) (tgt := 1073) hM rfl rfl rfl ?_ ?_
      · refine e_iinc (pc2 := 1076) (v := nI 7) (L2 := [some (.ref 0), some (.ref 1), some (.ref 40), some (.int (b3 + (nI 7)))]) hM rfl rfl rfl rfl rfl ?_
        refine e_goto (tgt := 18) hM rfl rfl ?_
        exact rfl
      · refine e_iconst (pc2 := 802) (v := nI 0) hM rfl rfl rfl ?_
        exact e_zret hM rfl rfl pm_01a
    refine s_cons (tgt := 803) rfl ?_ ?_
    · refine e_aload_n (pc2 := 804) hM rfl rfl rfl ?_
      refine e_aload_n (pc2 := 805) hM rfl rfl rfl ?_
      refine e_iload_n (pc2 := 806) hM rfl rfl rfl ?_
      refine e_iconst (pc2 := 807) (v := nI 1) hM rfl rfl rfl ?_
      refine e_iadd (pc2 := 808) hM rfl rfl ?_
      refine e_sld (pc2 := 809) hM rfl rfl (fun j62 => ?_)
      refine e_aload_n (pc2 := 810) hM rfl rfl rfl ?_
      refine e_iload_n (pc2 := 811) hM rfl rfl rfl ?_
      refine e_iconst (pc2 := 812) (v := nI 2) hM rfl rfl rfl ?_
      refine e_iadd (pc2 := 813) hM rfl rfl ?_
      refine e_sld (pc2 := 814) hM rfl rfl (fun j63 => ?_)
      refine e_cvi (pc2 := 817) (k := 0) (As := [.ref 1, .int (xs j62), .int (xs j63)]) (rest := []) hM rfl rfl rfl rfl rfl rfl rfl (fun x65 h64 => ?_)
      refine e_aload_n (pc2 := 818) hM rfl rfl rfl ?_
      refine e_aload_n (pc2 := 819) hM rfl rfl rfl ?_
      refine e_iload_n (pc2 := 820) hM rfl rfl rfl ?_
      refine e_iconst (pc2 := 821) (v := nI 1) hM rfl rfl rfl ?_
      refine e_iadd (pc2 := 822) hM rfl rfl ?_
      refine e_sld (pc2 := 823) hM rfl rfl (fun j66 => ?_)
      refine e_aload_n (pc2 := 824) hM rfl rfl rfl ?_
      refine e_iload_n (pc2 := 825) hM rfl rfl rfl ?_
      refine e_iconst (pc2 := 826) (v := nI 2) hM rfl rfl rfl ?_
      refine e_iadd (pc2 := 827) hM rfl rfl ?_
      refine e_sld (pc2 := 828) hM rfl rfl (fun j67 => ?_)
      refine e_cvi (pc2 := 831) (k := 39) (As := [.ref 40, .int (xs j66), .int (xs j67)]) (rest := [.int x65]) hM rfl rfl rfl rfl rfl rfl rfl (fun x69 h68 => ?_)
      refine e_icmp_eq (pc2 := 834) (tgt := 1073) hM rfl rfl rfl ?_ ?_
      · refine e_iinc (pc2 := 1076) (v := nI 7) (L2 := [some (.ref 0), some (.ref 1), some (.ref 40), some (.int (b3 + (nI 7)))]) hM rfl rfl rfl rfl rfl ?_
        refine e_goto (tgt := 18) hM rfl rfl ?_
        exact rfl
      · refine e_iconst (pc2 := 835) (v := nI 0) hM rfl rfl rfl ?_
        exact e_zret hM rfl rfl pm_01a
    refine s_cons (tgt := 836) rfl ?_ ?_
    · refine e_aload_n (pc2 := 837) hM rfl rfl rfl ?_
      refine e_aload_n (pc2 := 838) hM rfl rfl rfl ?_
      refine e_iload_n (pc2 := 839) hM rfl rfl rfl ?_
      refine e_iconst (pc2 := 840) (v := nI 1) hM rfl rfl rfl ?_
      refine e_iadd (pc2 := 841) hM rfl rfl ?_
      refine e_sld (pc2 := 842) hM rfl rfl (fun j56 => ?_)
      refine e_cvi (pc2 := 845) (k := 0) (As := [.ref 1, .int (xs j56)]) (rest := []) hM rfl rfl rfl rfl rfl rfl rfl (fun x58 h57 => ?_)
      refine e_aload_n (pc2 := 846) hM rfl rfl rfl ?_
      refine e_aload_n (pc2 := 847) hM rfl rfl rfl ?_
      refine e_iload_n (pc2 := 848) hM rfl rfl rfl ?_
      refine e_iconst (pc2 := 849) (v := nI 1) hM rfl rfl rfl ?_
      refine e_iadd (pc2 := 850) hM rfl rfl ?_
      refine e_sld (pc2 := 851) hM rfl rfl (fun j59 => ?_)
      refine e_cvi (pc2 := 854) (k := 39) (As := [.ref 40, .int (xs j59)]) (rest := [.int x58]) hM rfl rfl rfl rfl rfl rfl rfl (fun x61 h60 => ?_)
      refine e_icmp_eq (pc2 := 857) (tgt := 1073) hM rfl rfl rfl ?_ ?_
      · refine e_iinc (pc2 := 1076) (v := nI 7) (L2 := [some (.ref 0), some (.ref 1), some (.ref 40), some (.int (b3 + (nI 7)))]) hM rfl rfl rfl rfl rfl ?_
        refine e_goto (tgt := 18) hM rfl rfl ?_
        exact rfl
      · refine e_iconst (pc2 := 858) (v := nI 0) hM rfl rfl rfl ?_
        exact e_zret hM rfl rfl pm_01a
    refine s_cons (tgt := 859) rfl ?_ ?_
    · refine e_aload_n (pc2 := 860) hM rfl rfl rfl ?_
      refine e_aload_n (pc2 := 861) hM rfl rfl rfl ?_
      refine e_iload_n (pc2 := 862) hM rfl rfl rfl ?_
      refine e_iconst (pc2 := 863) (v := nI 1) hM rfl rfl rfl ?_
      refine e_iadd (pc2 := 864) hM rfl rfl ?_
      refine e_sld (pc2 := 865) hM rfl rfl (fun j48 => ?_)
      refine e_aload_n (pc2 := 866) hM rfl rfl rfl ?_
      refine e_iload_n (pc2 := 867) hM rfl rfl rfl ?_
      refine e_iconst (pc2 := 868) (v := nI 2) hM rfl rfl rfl ?_
      refine e_iadd (pc2 := 869) hM rfl rfl ?_
      refine e_sld (pc2 := 870) hM rfl rfl (fun j49 => ?_)
      refine e_cvi (pc2 := 873) (k := 0) (As := [.ref 1, .int (xs j48), .int (xs j49)]) (rest := []) hM rfl rfl rfl rfl rfl rfl rfl (fun x51 h50 => ?_)
      refine e_aload_n (pc2 := 874) hM rfl rfl rfl ?_
      refine e_aload_n (pc2 := 875) hM rfl rfl rfl ?_
      refine e_iload_n (pc2 := 876) hM rfl rfl rfl ?_
      refine e_iconst (pc2 := 877) (v := nI 1) hM rfl rfl rfl ?_
      refine e_iadd (pc2 := 878) hM rfl rfl ?_
      refine e_sld (pc2 := 879) hM rfl rfl (fun j52 => ?_)
      refine e_aload_n (pc2 := 880) hM rfl rfl rfl ?_
      refine e_iload_n (pc2 := 881) hM rfl rfl rfl ?_
      refine e_iconst (pc2 := 882) (v := nI 2) hM rfl rfl rfl ?_
      refine e_iadd (pc2 := 883) hM rfl rfl ?_
      refine e_sld (pc2 := 884) hM rfl rfl (fun j53 => ?_)
      refine e_cvi (pc2 := 887) (k := 39) (As := [.ref 40, .int (xs j52), .int (xs j53)]) (rest := [.int x51]) hM rfl rfl rfl rfl rfl rfl rfl (fun x55 h54 => ?_)
      refine e_icmp_eq (pc2 := 890) (tgt := 1073) hM rfl rfl rfl ?_ ?_
      · refine e_iinc (pc2 := 1076) (v := nI 7) (L2 := [some (.ref 0), some (.ref 1), some (.ref 40), some (.int (b3 + (nI 7)))]) hM rfl rfl rfl rfl rfl ?_
        refine e_goto (tgt := 18) hM rfl rfl ?_
        exact rfl
      · refine e_iconst (pc2 := 891) (v := nI 0) hM rfl rfl rfl ?_
        exact e_zret hM rfl rfl pm_01a
    refine s_cons (tgt := 892) rfl ?_ ?_
    · refine e_aload_n (pc2 := 893) hM rfl rfl rfl ?_
      refine e_aload_n (pc2 := 894) hM rfl rfl rfl ?_
      refine e_iload_n (pc2 := 895) hM rfl rfl rfl ?_
      refine e_iconst (pc2 := 896) (v := nI 1) hM rfl rfl rfl ?_
      refine e_iadd (pc2 := 897) hM rfl rfl ?_
      refine e_sld (pc2 := 898) hM rfl rfl (fun j40 => ?_)
      refine e_aload_n (pc2 := 899) hM rfl rfl rfl ?_
      refine e_iload_n (pc2 := 900) hM rfl rfl rfl ?_
      refine e_iconst (pc2 := 901) (v := nI 2) hM rfl rfl rfl ?_
      refine e_iadd (pc2 := 902) hM rfl rfl ?_
      refine e_sld (pc2 := 903) hM rfl rfl (fun j41 => ?_)
      refine e_cvi (pc2 := 906) (k := 0) (As := [.ref 1, .int (xs j40), .int (xs j41)]) (rest := []) hM rfl rfl rfl rfl rfl rfl rfl (fun x43 h42 => ?_)
      refine e_aload_n (pc2 := 907) hM rfl rfl rfl ?_
      refine e_aload_n (pc2 := 908) hM rfl rfl rfl ?_
      refine e_iload_n (pc2 := 909) hM rfl rfl rfl ?_
      refine e_iconst (pc2 := 910) (v := nI 1) hM rfl rfl rfl ?_
      refine e_iadd (pc2 := 911) hM rfl rfl ?_
      refine e_sld (pc2 := 912) hM rfl rfl (fun j44 => ?_)
      refine e_aload_n (pc2 := 913) hM rfl rfl rfl ?_
      refine e_iload_n (pc2 := 914) hM rfl rfl rfl ?_
      refine e_iconst (pc2 := 915) (v := nI 2) hM rfl rfl rfl ?_
      refine e_iadd (pc2 := 916) hM rfl rfl ?_
      refine e_sld (pc2 := 917) hM rfl rfl (fun j45 => ?_)
      refine e_cvi (pc2 := 920) (k := 39) (As := [.ref 40, .int (xs j44), .int (xs j45)]) (rest := [.int x43]) hM rfl rfl rfl rfl rfl rfl rfl (fun x47 h46 => ?_)
      refine e_icmp_eq (pc2 := 923) (tgt := 1073) hM rfl rfl rfl ?_ ?_
      · refine e_iinc (pc2 := 1076) (v := nI 7) (L2 := [some (.ref 0), some (.ref 1), some (.ref 40), some (.int (b3 + (nI 7)))]) hM rfl rfl rfl rfl rfl ?_
        refine e_goto (tgt := 18) hM rfl rfl ?_
        exact rfl
      · refine e_iconst (pc2 := 924) (v := nI 0) hM rfl rfl rfl ?_
        exact e_zret hM rfl rfl pm_01a
    refine s_cons (tgt := 925) rfl ?_ ?_
    · refine e_aload_n (pc2 := 926) hM rfl rfl rfl ?_
      refine e_aload_n (pc2 := 927) hM rfl rfl rfl ?_
      refine e_iload_n (pc2 := 928) hM rfl rfl rfl ?_
      refine e_iconst (pc2 := 929) (v := nI 1) hM rfl rfl rfl ?_
      refine e_iadd (pc2 := 930) hM rfl rfl ?_
      refine e_sld (pc2 := 931) hM rfl rfl (fun j32 => ?_)
      refine e_aload_n (pc2 := 932) hM rfl rfl rfl ?_
      refine e_iload_n (pc2 := 933) hM rfl rfl rfl ?_
      refine e_iconst (pc2 := 934) (v := nI 2) hM rfl rfl rfl ?_
      refine e_iadd (pc2 := 935) hM rfl rfl ?_
      refine e_sld (pc2 := 936) hM rfl rfl (fun j33 => ?_)
      refine e_cvi (pc2 := 939) (k := 0) (As := [.ref 1, .int (xs j32), .int (xs j33)]) (rest := []) hM rfl rfl rfl rfl rfl rfl rfl (fun x35 h34 => ?_)
      refine e_aload_n (pc2 := 940) hM rfl rfl rfl ?_
      refine e_aload_n (pc2 := 941) hM rfl rfl rfl ?_
      refine e_iload_n (pc2 := 942) hM rfl rfl rfl ?_
      refine e_iconst (pc2 := 943) (v := nI 1) hM rfl rfl rfl ?_
      refine e_iadd (pc2 := 944) hM rfl rfl ?_
      refine e_sld (pc2 := 945) hM rfl rfl (fun j36 => ?_)
      refine e_aload_n (pc2 := 946) hM rfl rfl rfl ?_
      refine e_iload_n (pc2 := 947) hM rfl rfl rfl ?_
      refine e_iconst (pc2 := 948) (v := nI 2) hM rfl rfl rfl ?_
      refine e_iadd (pc2 := 949) hM rfl rfl ?_
      refine e_sld (pc2 := 950) hM rfl rfl (fun j37 => ?_)
      refine e_cvi (pc2 := 953) (k := 39) (As := [.ref 40, .int (xs j36), .int (xs j37)]) (rest := [.int x35]) hM rfl rfl rfl rfl rfl rfl rfl (fun x39 h38 => ?_)
      refine e_icmp_eq (pc2 := 956) (tgt := 1073) hM rfl rfl rfl ?_ ?_
      · refine e_iinc (pc2 := 1076) (v := nI 7) (L2 := [some (.ref 0), some (.ref 1), some (.ref 40), some (.int (b3 + (nI 7)))]) hM rfl rfl rfl rfl rfl ?_
        refine e_goto (tgt := 18) hM rfl rfl ?_
        exact rfl
      · refine e_iconst (pc2 := 957) (v := nI 0) hM rfl rfl rfl ?_
        exact e_zret hM rfl rfl pm_01a
    refine s_cons (tgt := 958) rfl ?_ ?_
    · refine e_aload_n (pc2 := 959) hM rfl rfl rfl ?_
      refine e_aload_n (pc2 := 960) hM rfl rfl rfl ?_
      refine e_iload_n (pc2 := 961) hM rfl rfl rfl ?_
      refine e_iconst (pc2 := 962) (v := nI 1) hM rfl rfl rfl ?_
      refine e_iadd (pc2 := 963) hM rfl rfl ?_
      refine e_sld (pc2 := 964) hM rfl rfl (fun j24 => ?_)
      refine e_aload_n (pc2 := 965) hM rfl rfl rfl ?_
      refine e_iload_n (pc2 := 966) hM rfl rfl rfl ?_
      refine e_iconst (pc2 := 967) (v := nI 2) hM rfl rfl rfl ?_
      refine e_iadd (pc2 := 968) hM rfl rfl ?_
      refine e_sld (pc2 := 969) hM rfl rfl (fun j25 => ?_)
      refine e_cvi (pc2 := 972) (k := 0) (As := [.ref 1, .int (xs j24), .int (xs j25)]) (rest := []) hM rfl rfl rfl rfl rfl rfl rfl (fun x27 h26 => ?_)
      refine e_aload_n (pc2 := 973) hM rfl rfl rfl ?_
      refine e_aload_n (pc2 := 974) hM rfl rfl rfl ?_
      refine e_iload_n (pc2 := 975) hM rfl rfl rfl ?_
      refine e_iconst (pc2 := 976) (v := nI 1) hM rfl rfl rfl ?_
      refine e_iadd (pc2 := 977) hM rfl rfl ?_
      refine e_sld (pc2 := 978) hM rfl rfl (fun j28 => ?_)
      refine e_aload_n (pc2 := 979) hM rfl rfl rfl ?_
      refine e_iload_n (pc2 := 980) hM rfl rfl rfl ?_
      refine e_iconst (pc2 := 981) (v := nI 2) hM rfl rfl rfl ?_
      refine e_iadd (pc2 := 982) hM rfl rfl ?_
      refine e_sld (pc2 := 983) hM rfl rfl (fun j29 => ?_)
      refine e_cvi (pc2 := 986) (k := 39) (As := [.ref 40, .int (xs j28), .int (xs j29)]) (rest := [.int x27]) hM rfl rfl rfl rfl rfl rfl rfl (fun x31 h30 => ?_)
      refine e_icmp_eq (pc2 := 989) (tgt := 1073) hM rfl rfl rfl ?_ ?_
      · refine e_iinc (pc2 := 1076) (v := nI 7) (L2 := [some (.ref 0), some (.ref 1), some (.ref 40), some (.int (b3 + (nI 7)))]) hM rfl rfl rfl rfl rfl ?_
        refine e_goto (tgt := 18) hM rfl rfl ?_
        exact rfl
      · refine e_iconst (pc2 := 990) (v := nI 0) hM rfl rfl rfl ?_
        exact e_zret hM rfl rfl pm_01a
    refine s_cons (tgt := 991) rfl ?_ ?_
    · refine e_aload_n (pc2 := 992) hM rfl rfl rfl ?_
      refine e_aload_n (pc2 := 993) hM rfl rfl rfl ?_
      refine e_iload_n (pc2 := 994) hM rfl rfl rfl ?_
      refine e_iconst (pc2 := 995) (v := nI 1) hM rfl rfl rfl ?_
      refine e_iadd (pc2 := 996) hM rfl rfl ?_
      refine e_sld (pc2 := 997) hM rfl rfl (fun j18 => ?_)
      refine e_cvi (pc2 := 1000) (k := 0) (As := [.ref 1, .int (xs j18)]) (rest := []) hM rfl rfl rfl rfl rfl rfl rfl (fun x20 h19 => ?_)
      refine e_aload_n (pc2 := 1001) hM rfl rfl rfl ?_
      refine e_aload_n (pc2 := 1002) hM rfl rfl rfl ?_
      refine e_iload_n (pc2 := 1003) hM rfl rfl rfl ?_
      refine e_iconst (pc2 := 1004) (v := nI 1) hM rfl rfl rfl ?_
      refine e_iadd (pc2 := 1005) hM rfl rfl ?_
      refine e_sld (pc2 := 1006) hM rfl rfl (fun j21 => ?_)
      refine e_cvi (pc2 := 1009) (k := 39) (As := [.ref 40, .int (xs j21)]) (rest := [.int x20]) hM rfl rfl rfl rfl rfl rfl rfl (fun x23 h22 => ?_)
      refine e_icmp_eq (pc2 := 1012) (tgt := 1073) hM rfl rfl rfl ?_ ?_
      · refine e_iinc (pc2 := 1076) (v := nI 7) (L2 := [some (.ref 0), some (.ref 1), some (.ref 40), some (.int (b3 + (nI 7)))]) hM rfl rfl rfl rfl rfl ?_
        refine e_goto (tgt := 18) hM rfl rfl ?_
        exact rfl
      · refine e_iconst (pc2 := 1013) (v := nI 0) hM rfl rfl rfl ?_
        exact e_zret hM rfl rfl pm_01a
    refine s_cons (tgt := 1014) rfl ?_ ?_
    · refine e_aload_n (pc2 := 1015) hM rfl rfl rfl ?_
      refine e_cvi (pc2 := 1018) (k := 0) (As := [.ref 1]) (rest := []) hM rfl rfl rfl rfl rfl rfl rfl (fun x15 h14 => ?_)
      refine e_aload_n (pc2 := 1019) hM rfl rfl rfl ?_
      refine e_cvi (pc2 := 1022) (k := 39) (As := [.ref 40]) (rest := [.int x15]) hM rfl rfl rfl rfl rfl rfl rfl (fun x17 h16 => ?_)
      refine e_icmp_eq (pc2 := 1025) (tgt := 1073) hM rfl rfl rfl ?_ ?_
      · refine e_iinc (pc2 := 1076) (v := nI 7) (L2 := [some (.ref 0), some (.ref 1), some (.ref 40), some (.int (b3 + (nI 7)))]) hM rfl rfl rfl rfl rfl ?_
        refine e_goto (tgt := 18) hM rfl rfl ?_
        exact rfl
      · refine e_iconst (pc2 := 1026) (v := nI 0) hM rfl rfl rfl ?_
        exact e_zret hM rfl rfl pm_01a
    refine s_cons (tgt := 1027) rfl ?_ ?_
    · refine e_aload_n (pc2 := 1028) hM rfl rfl rfl ?_
      refine e_aload_n (pc2 := 1029) hM rfl rfl rfl ?_
      refine e_iload_n (pc2 := 1030) hM rfl rfl rfl ?_
      refine e_iconst (pc2 := 1031) (v := nI 1) hM rfl rfl rfl ?_
      refine e_iadd (pc2 := 1032) hM rfl rfl ?_
      refine e_sld (pc2 := 1033) hM rfl rfl (fun j8 => ?_)
      refine e_cvi (pc2 := 1036) (k := 0) (As := [.ref 1, .int (xs j8)]) (rest := []) hM rfl rfl rfl rfl rfl rfl rfl (fun x10 h9 => ?_)
      refine e_aload_n (pc2 := 1037) hM rfl rfl rfl ?_
      refine e_aload_n (pc2 := 1038) hM rfl rfl rfl ?_
      refine e_iload_n (pc2 := 1039) hM rfl rfl rfl ?_
      refine e_iconst (pc2 := 1040) (v := nI 1) hM rfl rfl rfl ?_
      refine e_iadd (pc2 := 1041) hM rfl rfl ?_
      refine e_sld (pc2 := 1042) hM rfl rfl (fun j11 => ?_)
      refine e_cvi (pc2 := 1045) (k := 39) (As := [.ref 40, .int (xs j11)]) (rest := [.int x10]) hM rfl rfl rfl rfl rfl rfl rfl (fun x13 h12 => ?_)
      refine e_icmp_eq (pc2 := 1048) (tgt := 1073) hM rfl rfl rfl ?_ ?_
      · refine e_iinc (pc2 := 1076) (v := nI 7) (L2 := [some (.ref 0), some (.ref 1), some (.ref 40), some (.int (b3 + (nI 7)))]) hM rfl rfl rfl rfl rfl ?_
        refine e_goto (tgt := 18) hM rfl rfl ?_
        exact rfl
      · refine e_iconst (pc2 := 1049) (v := nI 0) hM rfl rfl rfl ?_
        exact e_zret hM rfl rfl pm_01a
    refine s_cons (tgt := 1050) rfl ?_ ?_
    · refine e_aload_n (pc2 := 1051) hM rfl rfl rfl ?_
      refine e_aload_n (pc2 := 1052) hM rfl rfl rfl ?_
      refine e_iload_n (pc2 := 1053) hM rfl rfl rfl ?_
      refine e_iconst (pc2 := 1054) (v := nI 1) hM rfl rfl rfl ?_
      refine e_iadd (pc2 := 1055) hM rfl rfl ?_
      refine e_sld (pc2 := 1056) hM rfl rfl (fun j2 => ?_)
      refine e_cvi (pc2 := 1059) (k := 0) (As := [.ref 1, .int (xs j2)]) (rest := []) hM rfl rfl rfl rfl rfl rfl rfl (fun x4 h3 => ?_)
      refine e_aload_n (pc2 := 1060) hM rfl rfl rfl ?_
      refine e_aload_n (pc2 := 1061) hM rfl rfl rfl ?_
      refine e_iload_n (pc2 := 1062) hM rfl rfl rfl ?_
      refine e_iconst (pc2 := 1063) (v := nI 1) hM rfl rfl rfl ?_
      refine e_iadd (pc2 := 1064) hM rfl rfl ?_
      refine e_sld (pc2 := 1065) hM rfl rfl (fun j5 => ?_)
      refine e_cvi (pc2 := 1068) (k := 39) (As := [.ref 40, .int (xs j5)]) (rest := [.int x4]) hM rfl rfl rfl rfl rfl rfl rfl (fun x7 h6 => ?_)
      refine e_icmp_eq (pc2 := 1071) (tgt := 1073) hM rfl rfl rfl ?_ ?_
      · refine e_iinc (pc2 := 1076) (v := nI 7) (L2 := [some (.ref 0), some (.ref 1), some (.ref 40), some (.int (b3 + (nI 7)))]) hM rfl rfl rfl rfl rfl ?_
        refine e_goto (tgt := 18) hM rfl rfl ?_
        exact rfl
      · refine e_iconst (pc2 := 1072) (v := nI 0) hM rfl rfl rfl ?_
        exact e_zret hM rfl rfl pm_01a
    refine s_nil (tgt := 1073) rfl ?_
    refine e_iinc (pc2 := 1076) (v := nI 7) (L2 := [some (.ref 0), some (.ref 1), some (.ref 40), some (.int (b3 + (nI 7)))]) hM rfl rfl rfl rfl rfl ?_
    refine e_goto (tgt := 18) hM rfl rfl ?_
    exact rfl
