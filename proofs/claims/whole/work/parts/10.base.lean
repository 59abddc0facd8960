theorem um {w : Cond} (i : Nat) (h : lw_tbl[i]? = some w) (g : goodWord w = true) : w ∈ mU := List.mem_filter.mpr ⟨List.mem_of_getElem? h, g⟩
/-- numbers, long numbers, the one reference that is laid anew -/
abbrev sT : Type := (Nat → Nat → Int32) × (Nat → Nat → Int64) × Option Nat
/-- the fixed shapes of the cells -/
def SH0 (a : Nat) : Nat × Nat := (bif Nat.ble a 240 then (bif Nat.ble a 120 then (bif Nat.ble a 60 then (bif Nat.ble a 30 then (bif Nat.ble a 15 then (bif Nat.ble a 7 then (bif Nat.ble a 3 then (bif Nat.ble a 1 then (bif Nat.ble a 0 then (11, 0) else (100, 6)) else (bif Nat.ble a 2 then (10, 0) else (100, 1600))) else (bif Nat.ble a 5 then (bif Nat.ble a 4 then (8, 0) else (6, 0)) else (bif Nat.ble a 6 then (4, 0) else (7, 0)))) else (bif Nat.ble a 11 then (bif Nat.ble a 9 then (100, 6) else (bif Nat.ble a 10 then (100, 6) else (100, 25))) else (bif Nat.ble a 13 then (bif Nat.ble a 12 then (2, 0) else (100, 1600)) else (bif Nat.ble a 14 then (100, 64) else (2, 0))))) else (bif Nat.ble a 23 then (bif Nat.ble a 19 then (bif Nat.ble a 17 then (bif Nat.ble a 16 then (100, 1600) else (100, 64)) else (bif Nat.ble a 18 then (100, 192) else (100, 6))) else (bif Nat.ble a 21 then (bif Nat.ble a 20 then (100, 6) else (7, 0)) else (100, 6))) else (bif Nat.ble a 27 then (bif Nat.ble a 25 then (bif Nat.ble a 24 then (100, 6) else (100, 25)) else (bif Nat.ble a 26 then (2, 0) else (100, 1600))) else (bif Nat.ble a 29 then (bif Nat.ble a 28 then (100, 64) else (2, 0)) else (100, 1600))))) else (bif Nat.ble a 45 then (bif Nat.ble a 38 then (bif Nat.ble a 34 then (bif Nat.ble a 32 then (bif Nat.ble a 31 then (100, 64) else (100, 192)) else (100, 6)) else (bif Nat.ble a 36 then (bif Nat.ble a 35 then (1, 0) else (101, 25)) else (bif Nat.ble a 37 then (100, 32) else (9, 0)))) else (bif Nat.ble a 42 then (bif Nat.ble a 40 then (bif Nat.ble a 39 then (100, 25) else (100, 6)) else (bif Nat.ble a 41 then (100, 6) else (100, 120))) else (bif Nat.ble a 44 then (bif Nat.ble a 43 then (3, 0) else (103, 20)) else (9, 0)))) else (bif Nat.ble a 53 then (bif Nat.ble a 49 then (bif Nat.ble a 47 then (bif Nat.ble a 46 then (100, 25) else (100, 6)) else (bif Nat.ble a 48 then (100, 6) else (100, 120))) else (bif Nat.ble a 51 then (bif Nat.ble a 50 then (9, 0) else (100, 25)) else (100, 6))) else (bif Nat.ble a 57 then (bif Nat.ble a 55 then (bif Nat.ble a 54 then (100, 120) else (9, 0)) else (bif Nat.ble a 56 then (100, 25) else (100, 6))) else (bif Nat.ble a 59 then (bif Nat.ble a 58 then (100, 6) else (100, 120)) else (9, 0)))))) else (bif Nat.ble a 90 then (bif Nat.ble a 75 then (bif Nat.ble a 68 then (bif Nat.ble a 64 then (bif Nat.ble a 62 then (bif Nat.ble a 61 then (100, 25) else (100, 6)) else (bif Nat.ble a 63 then (100, 6) else (100, 120))) else (bif Nat.ble a 66 then (bif Nat.ble a 65 then (9, 0) else (100, 25)) else (100, 6))) else (bif Nat.ble a 72 then (bif Nat.ble a 70 then (bif Nat.ble a 69 then (100, 120) else (9, 0)) else (bif Nat.ble a 71 then (100, 25) else (100, 6))) else (bif Nat.ble a 74 then (bif Nat.ble a 73 then (100, 6) else (100, 120)) else (9, 0)))) else (bif Nat.ble a 83 then (bif Nat.ble a 79 then (bif Nat.ble a 77 then (bif Nat.ble a 76 then (100, 25) else (100, 6)) else (bif Nat.ble a 78 then (100, 6) else (100, 120))) else (bif Nat.ble a 81 then (bif Nat.ble a 80 then (9, 0) else (100, 25)) else (100, 6))) else (bif Nat.ble a 87 then (bif Nat.ble a 85 then (bif Nat.ble a 84 then (100, 120) else (9, 0)) else (bif Nat.ble a 86 then (100, 25) else (100, 6))) else (bif Nat.ble a 89 then (bif Nat.ble a 88 then (100, 6) else (100, 120)) else (9, 0))))) else (bif Nat.ble a 105 then (bif Nat.ble a 98 then (bif Nat.ble a 94 then (bif Nat.ble a 92 then (bif Nat.ble a 91 then (100, 25) else (100, 6)) else (bif Nat.ble a 93 then (100, 6) else (100, 120))) else (bif Nat.ble a 96 then (bif Nat.ble a 95 then (9, 0) else (100, 25)) else (100, 6))) else (bif Nat.ble a 102 then (bif Nat.ble a 100 then (bif Nat.ble a 99 then (100, 120) else (9, 0)) else (bif Nat.ble a 101 then (100, 25) else (100, 6))) else (bif Nat.ble a 104 then (bif Nat.ble a 103 then (100, 6) else (100, 120)) else (9, 0)))) else (bif Nat.ble a 113 then (bif Nat.ble a 109 then (bif Nat.ble a 107 then (bif Nat.ble a 106 then (100, 25) else (100, 6)) else (bif Nat.ble a 108 then (100, 6) else (100, 120))) else (bif Nat.ble a 111 then (bif Nat.ble a 110 then (9, 0) else (100, 25)) else (100, 6))) else (bif Nat.ble a 117 then (bif Nat.ble a 115 then (bif Nat.ble a 114 then (100, 120) else (9, 0)) else (bif Nat.ble a 116 then (100, 25) else (100, 6))) else (bif Nat.ble a 119 then (bif Nat.ble a 118 then (100, 6) else (100, 120)) else (9, 0))))))) else (bif Nat.ble a 180 then (bif Nat.ble a 150 then (bif Nat.ble a 135 then (bif Nat.ble a 128 then (bif Nat.ble a 124 then (bif Nat.ble a 122 then (bif Nat.ble a 121 then (100, 25) else (100, 6)) else (bif Nat.ble a 123 then (100, 6) else (100, 120))) else (bif Nat.ble a 126 then (bif Nat.ble a 125 then (9, 0) else (100, 25)) else (100, 6))) else (bif Nat.ble a 132 then (bif Nat.ble a 130 then (bif Nat.ble a 129 then (100, 120) else (9, 0)) else (bif Nat.ble a 131 then (100, 25) else (100, 6))) else (bif Nat.ble a 134 then (bif Nat.ble a 133 then (100, 6) else (100, 120)) else (9, 0)))) else (bif Nat.ble a 143 then (bif Nat.ble a 139 then (bif Nat.ble a 137 then (bif Nat.ble a 136 then (100, 25) else (100, 6)) else (bif Nat.ble a 138 then (100, 6) else (100, 120))) else (bif Nat.ble a 141 then (bif Nat.ble a 140 then (9, 0) else (100, 25)) else (100, 6))) else (bif Nat.ble a 147 then (bif Nat.ble a 145 then (bif Nat.ble a 144 then (100, 120) else (0, 0)) else (bif Nat.ble a 146 then (100, 36) else (5, 0))) else (bif Nat.ble a 149 then (bif Nat.ble a 148 then (9, 0) else (100, 25)) else (100, 6))))) else (bif Nat.ble a 165 then (bif Nat.ble a 158 then (bif Nat.ble a 154 then (bif Nat.ble a 152 then (bif Nat.ble a 151 then (100, 6) else (100, 120)) else (bif Nat.ble a 153 then (100, 3) else (100, 6))) else (bif Nat.ble a 156 then (bif Nat.ble a 155 then (100, 48) else (100, 961)) else (bif Nat.ble a 157 then (2, 0) else (100, 1600)))) else (bif Nat.ble a 162 then (bif Nat.ble a 160 then (bif Nat.ble a 159 then (100, 64) else (100, 36)) else (bif Nat.ble a 161 then (100, 69) else (12, 0))) else (bif Nat.ble a 164 then (bif Nat.ble a 163 then (100, 1600) else (100, 6)) else (102, 6)))) else (bif Nat.ble a 173 then (bif Nat.ble a 169 then (bif Nat.ble a 167 then (bif Nat.ble a 166 then (102, 4) else (102, 6)) else (bif Nat.ble a 168 then (102, 3) else (102, 2))) else (bif Nat.ble a 171 then (bif Nat.ble a 170 then (102, 4) else (102, 2)) else (102, 5))) else (bif Nat.ble a 177 then (bif Nat.ble a 175 then (bif Nat.ble a 174 then (102, 5) else (102, 4)) else (bif Nat.ble a 176 then (102, 4) else (102, 5))) else (bif Nat.ble a 179 then (bif Nat.ble a 178 then (102, 5) else (102, 3)) else (102, 6)))))) else (bif Nat.ble a 210 then (bif Nat.ble a 195 then (bif Nat.ble a 188 then (bif Nat.ble a 184 then (bif Nat.ble a 182 then (bif Nat.ble a 181 then (102, 6) else (102, 3)) else (bif Nat.ble a 183 then (102, 6) else (102, 4))) else (bif Nat.ble a 186 then (bif Nat.ble a 185 then (102, 3) else (102, 4)) else (bif Nat.ble a 187 then (102, 2) else (102, 3)))) else (bif Nat.ble a 192 then (102, 3) else (bif Nat.ble a 194 then (bif Nat.ble a 193 then (100, 10) else (101, 12)) else (100, 24)))) else (bif Nat.ble a 203 then (bif Nat.ble a 199 then (bif Nat.ble a 197 then (bif Nat.ble a 196 then (100, 25) else (100, 4)) else (bif Nat.ble a 198 then (100, 4) else (100, 3200))) else (bif Nat.ble a 201 then (bif Nat.ble a 200 then (100, 158) else (100, 2000)) else (bif Nat.ble a 202 then (100, 6) else (101, 6)))) else (bif Nat.ble a 207 then (bif Nat.ble a 205 then (bif Nat.ble a 204 then (100, 12000) else (100, 6)) else (bif Nat.ble a 206 then (100, 6) else (100, 37))) else (bif Nat.ble a 209 then (bif Nat.ble a 208 then (100, 7) else (100, 6)) else (100, 48))))) else (bif Nat.ble a 225 then (bif Nat.ble a 218 then (bif Nat.ble a 214 then (bif Nat.ble a 212 then (bif Nat.ble a 211 then (100, 961) else (100, 3160)) else (bif Nat.ble a 213 then (102, 5) else (102, 4))) else (bif Nat.ble a 216 then (102, 5) else (bif Nat.ble a 217 then (102, 4) else (102, 5)))) else (bif Nat.ble a 222 then (bif Nat.ble a 220 then (102, 3) else (bif Nat.ble a 221 then (102, 2) else (102, 3))) else (bif Nat.ble a 224 then (102, 3) else (102, 4)))) else (bif Nat.ble a 233 then (bif Nat.ble a 229 then (bif Nat.ble a 227 then (bif Nat.ble a 226 then (102, 5) else (102, 3)) else (bif Nat.ble a 228 then (102, 5) else (102, 6))) else (bif Nat.ble a 231 then (bif Nat.ble a 230 then (102, 6) else (102, 3)) else (bif Nat.ble a 232 then (102, 6) else (102, 4)))) else (bif Nat.ble a 237 then (bif Nat.ble a 235 then (bif Nat.ble a 234 then (102, 3) else (102, 5)) else (bif Nat.ble a 236 then (102, 4) else (100, 1700))) else (bif Nat.ble a 239 then (bif Nat.ble a 238 then (100, 1700) else (101, 1700)) else (100, 69)))))))) else (999, 0))
/-- the fixed references -/
def SPc (a j : Nat) : Option Nat := (bif Nat.ble 121 j then none else bif Nat.ble a 240 then (bif Nat.ble a 120 then (bif Nat.ble a 60 then (bif Nat.ble a 30 then (bif Nat.ble a 15 then (bif Nat.ble a 7 then (bif Nat.ble a 3 then (bif Nat.ble a 1 then (bif Nat.ble a 0 then (bif Nat.ble j 13 then (bif Nat.ble j 6 then (bif Nat.ble j 3 then (bif Nat.ble j 1 then (bif Nat.ble j 0 then some 1 else some 2) else (bif Nat.ble j 2 then some 4 else some 5)) else (bif Nat.ble j 5 then (bif Nat.ble j 4 then some 6 else some 21) else some 35)) else (bif Nat.ble j 10 then (bif Nat.ble j 8 then (bif Nat.ble j 7 then some 38 else some 43) else (bif Nat.ble j 9 then some 145 else some 147)) else (bif Nat.ble j 12 then (bif Nat.ble j 11 then some 157 else some 160) else some 161))) else none) else none) else (bif Nat.ble a 2 then (bif Nat.ble j 0 then some 3 else none) else none)) else (bif Nat.ble a 5 then (bif Nat.ble a 4 then (bif Nat.ble j 0 then some 2 else none) else (bif Nat.ble j 0 then some 4 else none)) else (bif Nat.ble a 6 then (bif Nat.ble j 2 then (bif Nat.ble j 1 then (bif Nat.ble j 0 then some 4 else some 5) else some 7) else none) else (bif Nat.ble j 15 then (bif Nat.ble j 7 then (bif Nat.ble j 3 then none else (bif Nat.ble j 5 then none else (bif Nat.ble j 6 then none else some 8))) else (bif Nat.ble j 11 then (bif Nat.ble j 9 then (bif Nat.ble j 8 then some 9 else some 10) else (bif Nat.ble j 10 then some 11 else some 12)) else (bif Nat.ble j 13 then (bif Nat.ble j 12 then some 15 else some 18) else (bif Nat.ble j 14 then some 19 else some 20)))) else none)))) else (bif Nat.ble a 11 then none else (bif Nat.ble a 13 then (bif Nat.ble a 12 then (bif Nat.ble j 1 then (bif Nat.ble j 0 then some 13 else some 14) else none) else none) else (bif Nat.ble a 14 then none else (bif Nat.ble j 1 then (bif Nat.ble j 0 then some 16 else some 17) else none))))) else (bif Nat.ble a 23 then (bif Nat.ble a 19 then none else (bif Nat.ble a 21 then (bif Nat.ble a 20 then none else (bif Nat.ble j 15 then (bif Nat.ble j 7 then (bif Nat.ble j 3 then none else (bif Nat.ble j 5 then none else (bif Nat.ble j 6 then none else some 22))) else (bif Nat.ble j 11 then (bif Nat.ble j 9 then (bif Nat.ble j 8 then some 23 else some 24) else (bif Nat.ble j 10 then some 25 else some 26)) else (bif Nat.ble j 13 then (bif Nat.ble j 12 then some 29 else some 32) else (bif Nat.ble j 14 then some 33 else some 34)))) else none)) else none)) else (bif Nat.ble a 27 then (bif Nat.ble a 25 then none else (bif Nat.ble a 26 then (bif Nat.ble j 1 then (bif Nat.ble j 0 then some 27 else some 28) else none) else none)) else (bif Nat.ble a 29 then (bif Nat.ble a 28 then none else (bif Nat.ble j 1 then (bif Nat.ble j 0 then some 30 else some 31) else none)) else none)))) else (bif Nat.ble a 45 then (bif Nat.ble a 38 then (bif Nat.ble a 34 then none else (bif Nat.ble a 36 then (bif Nat.ble a 35 then (bif Nat.ble j 2 then (bif Nat.ble j 1 then (bif Nat.ble j 0 then some 21 else some 36) else some 37) else none) else none) else (bif Nat.ble a 37 then none else (bif Nat.ble j 4 then (bif Nat.ble j 2 then (bif Nat.ble j 1 then (bif Nat.ble j 0 then none else some 39) else some 40) else (bif Nat.ble j 3 then some 41 else some 42)) else none)))) else (bif Nat.ble a 42 then none else (bif Nat.ble a 44 then (bif Nat.ble a 43 then (bif Nat.ble j 0 then some 44 else none) else (bif Nat.ble 20 j then none else some (45 + 5 * j))) else (bif Nat.ble j 4 then (bif Nat.ble j 2 then (bif Nat.ble j 1 then (bif Nat.ble j 0 then none else some 46) else some 47) else (bif Nat.ble j 3 then some 48 else some 49)) else none)))) else (bif Nat.ble a 53 then (bif Nat.ble a 49 then none else (bif Nat.ble a 51 then (bif Nat.ble a 50 then (bif Nat.ble j 4 then (bif Nat.ble j 2 then (bif Nat.ble j 1 then (bif Nat.ble j 0 then none else some 51) else some 52) else (bif Nat.ble j 3 then some 53 else some 54)) else none) else none) else none)) else (bif Nat.ble a 57 then (bif Nat.ble a 55 then (bif Nat.ble a 54 then none else (bif Nat.ble j 4 then (bif Nat.ble j 2 then (bif Nat.ble j 1 then (bif Nat.ble j 0 then none else some 56) else some 57) else (bif Nat.ble j 3 then some 58 else some 59)) else none)) else none) else (bif Nat.ble a 59 then none else (bif Nat.ble j 4 then (bif Nat.ble j 2 then (bif Nat.ble j 1 then (bif Nat.ble j 0 then none else some 61) else some 62) else (bif Nat.ble j 3 then some 63 else some 64)) else none)))))) else (bif Nat.ble a 90 then (bif Nat.ble a 75 then (bif Nat.ble a 68 then (bif Nat.ble a 64 then none else (bif Nat.ble a 66 then (bif Nat.ble a 65 then (bif Nat.ble j 4 then (bif Nat.ble j 2 then (bif Nat.ble j 1 then (bif Nat.ble j 0 then none else some 66) else some 67) else (bif Nat.ble j 3 then some 68 else some 69)) else none) else none) else none)) else (bif Nat.ble a 72 then (bif Nat.ble a 70 then (bif Nat.ble a 69 then none else (bif Nat.ble j 4 then (bif Nat.ble j 2 then (bif Nat.ble j 1 then (bif Nat.ble j 0 then none else some 71) else some 72) else (bif Nat.ble j 3 then some 73 else some 74)) else none)) else none) else (bif Nat.ble a 74 then none else (bif Nat.ble j 4 then (bif Nat.ble j 2 then (bif Nat.ble j 1 then (bif Nat.ble j 0 then none else some 76) else some 77) else (bif Nat.ble j 3 then some 78 else some 79)) else none)))) else (bif Nat.ble a 83 then (bif Nat.ble a 79 then none else (bif Nat.ble a 81 then (bif Nat.ble a 80 then (bif Nat.ble j 4 then (bif Nat.ble j 2 then (bif Nat.ble j 1 then (bif Nat.ble j 0 then none else some 81) else some 82) else (bif Nat.ble j 3 then some 83 else some 84)) else none) else none) else none)) else (bif Nat.ble a 87 then (bif Nat.ble a 85 then (bif Nat.ble a 84 then none else (bif Nat.ble j 4 then (bif Nat.ble j 2 then (bif Nat.ble j 1 then (bif Nat.ble j 0 then none else some 86) else some 87) else (bif Nat.ble j 3 then some 88 else some 89)) else none)) else none) else (bif Nat.ble a 89 then none else (bif Nat.ble j 4 then (bif Nat.ble j 2 then (bif Nat.ble j 1 then (bif Nat.ble j 0 then none else some 91) else some 92) else (bif Nat.ble j 3 then some 93 else some 94)) else none))))) else (bif Nat.ble a 105 then (bif Nat.ble a 98 then (bif Nat.ble a 94 then none else (bif Nat.ble a 96 then (bif Nat.ble a 95 then (bif Nat.ble j 4 then (bif Nat.ble j 2 then (bif Nat.ble j 1 then (bif Nat.ble j 0 then none else some 96) else some 97) else (bif Nat.ble j 3 then some 98 else some 99)) else none) else none) else none)) else (bif Nat.ble a 102 then (bif Nat.ble a 100 then (bif Nat.ble a 99 then none else (bif Nat.ble j 4 then (bif Nat.ble j 2 then (bif Nat.ble j 1 then (bif Nat.ble j 0 then none else some 101) else some 102) else (bif Nat.ble j 3 then some 103 else some 104)) else none)) else none) else (bif Nat.ble a 104 then none else (bif Nat.ble j 4 then (bif Nat.ble j 2 then (bif Nat.ble j 1 then (bif Nat.ble j 0 then none else some 106) else some 107) else (bif Nat.ble j 3 then some 108 else some 109)) else none)))) else (bif Nat.ble a 113 then (bif Nat.ble a 109 then none else (bif Nat.ble a 111 then (bif Nat.ble a 110 then (bif Nat.ble j 4 then (bif Nat.ble j 2 then (bif Nat.ble j 1 then (bif Nat.ble j 0 then none else some 111) else some 112) else (bif Nat.ble j 3 then some 113 else some 114)) else none) else none) else none)) else (bif Nat.ble a 117 then (bif Nat.ble a 115 then (bif Nat.ble a 114 then none else (bif Nat.ble j 4 then (bif Nat.ble j 2 then (bif Nat.ble j 1 then (bif Nat.ble j 0 then none else some 116) else some 117) else (bif Nat.ble j 3 then some 118 else some 119)) else none)) else none) else (bif Nat.ble a 119 then none else (bif Nat.ble j 4 then (bif Nat.ble j 2 then (bif Nat.ble j 1 then (bif Nat.ble j 0 then none else some 121) else some 122) else (bif Nat.ble j 3 then some 123 else some 124)) else none))))))) else (bif Nat.ble a 180 then (bif Nat.ble a 150 then (bif Nat.ble a 135 then (bif Nat.ble a 128 then (bif Nat.ble a 124 then none else (bif Nat.ble a 126 then (bif Nat.ble a 125 then (bif Nat.ble j 4 then (bif Nat.ble j 2 then (bif Nat.ble j 1 then (bif Nat.ble j 0 then none else some 126) else some 127) else (bif Nat.ble j 3 then some 128 else some 129)) else none) else none) else none)) else (bif Nat.ble a 132 then (bif Nat.ble a 130 then (bif Nat.ble a 129 then none else (bif Nat.ble j 4 then (bif Nat.ble j 2 then (bif Nat.ble j 1 then (bif Nat.ble j 0 then none else some 131) else some 132) else (bif Nat.ble j 3 then some 133 else some 134)) else none)) else none) else (bif Nat.ble a 134 then none else (bif Nat.ble j 4 then (bif Nat.ble j 2 then (bif Nat.ble j 1 then (bif Nat.ble j 0 then none else some 136) else some 137) else (bif Nat.ble j 3 then some 138 else some 139)) else none)))) else (bif Nat.ble a 143 then (bif Nat.ble a 139 then none else (bif Nat.ble a 141 then (bif Nat.ble a 140 then (bif Nat.ble j 4 then (bif Nat.ble j 2 then (bif Nat.ble j 1 then (bif Nat.ble j 0 then none else some 141) else some 142) else (bif Nat.ble j 3 then some 143 else some 144)) else none) else none) else none)) else (bif Nat.ble a 147 then (bif Nat.ble a 145 then (bif Nat.ble a 144 then none else (bif Nat.ble j 1 then (bif Nat.ble j 0 then some 21 else some 146) else none)) else (bif Nat.ble a 146 then none else (bif Nat.ble j 8 then (bif Nat.ble j 4 then (bif Nat.ble j 2 then (bif Nat.ble j 1 then (bif Nat.ble j 0 then some 21 else some 145) else some 38) else (bif Nat.ble j 3 then some 148 else some 153)) else (bif Nat.ble j 6 then (bif Nat.ble j 5 then some 154 else some 155) else (bif Nat.ble j 7 then none else some 156))) else none))) else (bif Nat.ble a 149 then (bif Nat.ble a 148 then (bif Nat.ble j 4 then (bif Nat.ble j 2 then (bif Nat.ble j 1 then (bif Nat.ble j 0 then none else some 149) else some 150) else (bif Nat.ble j 3 then some 151 else some 152)) else none) else none) else none)))) else (bif Nat.ble a 165 then (bif Nat.ble a 158 then (bif Nat.ble a 154 then none else (bif Nat.ble a 156 then none else (bif Nat.ble a 157 then (bif Nat.ble j 1 then (bif Nat.ble j 0 then some 158 else some 159) else none) else none))) else (bif Nat.ble a 162 then (bif Nat.ble a 160 then none else (bif Nat.ble a 161 then none else (bif Nat.ble j 110 then (bif Nat.ble j 55 then (bif Nat.ble j 27 then (bif Nat.ble j 13 then (bif Nat.ble j 6 then (bif Nat.ble j 3 then (bif Nat.ble j 1 then (bif Nat.ble j 0 then some 163 else none) else none) else none) else (bif Nat.ble j 10 then (bif Nat.ble j 8 then none else (bif Nat.ble j 9 then some 164 else none)) else (bif Nat.ble j 12 then (bif Nat.ble j 11 then some 165 else some 166) else some 167))) else (bif Nat.ble j 20 then (bif Nat.ble j 17 then (bif Nat.ble j 15 then (bif Nat.ble j 14 then some 168 else some 169) else (bif Nat.ble j 16 then some 170 else some 171)) else (bif Nat.ble j 19 then (bif Nat.ble j 18 then some 172 else some 173) else some 174)) else (bif Nat.ble j 24 then (bif Nat.ble j 22 then (bif Nat.ble j 21 then some 175 else some 176) else (bif Nat.ble j 23 then some 177 else some 178)) else (bif Nat.ble j 26 then (bif Nat.ble j 25 then some 179 else some 180) else some 181)))) else (bif Nat.ble j 41 then (bif Nat.ble j 34 then (bif Nat.ble j 31 then (bif Nat.ble j 29 then (bif Nat.ble j 28 then some 182 else some 183) else (bif Nat.ble j 30 then some 184 else some 185)) else (bif Nat.ble j 33 then (bif Nat.ble j 32 then some 186 else some 187) else some 188)) else (bif Nat.ble j 38 then (bif Nat.ble j 36 then (bif Nat.ble j 35 then some 189 else some 190) else (bif Nat.ble j 37 then some 191 else some 192)) else (bif Nat.ble j 40 then (bif Nat.ble j 39 then none else some 193) else some 194))) else (bif Nat.ble j 48 then (bif Nat.ble j 45 then (bif Nat.ble j 43 then (bif Nat.ble j 42 then some 195 else some 196) else (bif Nat.ble j 44 then some 197 else some 198)) else (bif Nat.ble j 47 then (bif Nat.ble j 46 then some 199 else none) else none)) else (bif Nat.ble j 52 then (bif Nat.ble j 50 then none else (bif Nat.ble j 51 then some 200 else some 201)) else (bif Nat.ble j 54 then (bif Nat.ble j 53 then none else some 202) else some 203))))) else (bif Nat.ble j 83 then (bif Nat.ble j 69 then (bif Nat.ble j 62 then (bif Nat.ble j 59 then (bif Nat.ble j 57 then (bif Nat.ble j 56 then some 204 else some 205) else (bif Nat.ble j 58 then some 206 else none)) else none) else (bif Nat.ble j 66 then (bif Nat.ble j 64 then none else (bif Nat.ble j 65 then some 207 else some 208)) else (bif Nat.ble j 68 then (bif Nat.ble j 67 then some 209 else none) else none))) else (bif Nat.ble j 76 then (bif Nat.ble j 73 then (bif Nat.ble j 71 then (bif Nat.ble j 70 then some 210 else some 211) else (bif Nat.ble j 72 then some 212 else none)) else (bif Nat.ble j 75 then none else some 213)) else (bif Nat.ble j 80 then (bif Nat.ble j 78 then (bif Nat.ble j 77 then some 214 else some 215) else (bif Nat.ble j 79 then some 216 else some 217)) else (bif Nat.ble j 82 then (bif Nat.ble j 81 then some 218 else some 219) else some 220)))) else (bif Nat.ble j 97 then (bif Nat.ble j 90 then (bif Nat.ble j 87 then (bif Nat.ble j 85 then (bif Nat.ble j 84 then some 221 else some 222) else (bif Nat.ble j 86 then some 223 else some 224)) else (bif Nat.ble j 89 then (bif Nat.ble j 88 then some 225 else some 226) else some 227)) else (bif Nat.ble j 94 then (bif Nat.ble j 92 then (bif Nat.ble j 91 then some 228 else some 229) else (bif Nat.ble j 93 then some 230 else some 231)) else (bif Nat.ble j 96 then (bif Nat.ble j 95 then some 232 else some 233) else some 234))) else (bif Nat.ble j 104 then (bif Nat.ble j 101 then (bif Nat.ble j 99 then (bif Nat.ble j 98 then some 235 else some 236) else (bif Nat.ble j 100 then some 237 else none)) else (bif Nat.ble j 103 then (bif Nat.ble j 102 then some 238 else none) else none)) else (bif Nat.ble j 107 then (bif Nat.ble j 106 then (bif Nat.ble j 105 then none else some 239) else none) else (bif Nat.ble j 109 then none else some 240)))))) else none))) else none)) else none)) else none)) else none)
def SP0 (o : Option Nat) (a j : Nat) : Option Nat := bif Nat.beq a 5 && Nat.beq j 1 then o else SPc a j
def mk (s : sT) : mS := ((241, 44145), SH0, s.1, s.2.1, SP0 s.2.2)
def rI (s : sT) (a j : Nat) : Int32 := s.1 a j
def rJ (s : sT) (a j : Nat) : Int64 := s.2.1 a j
def rA (s : sT) (a : Nat) : Nat → Int32 := s.1 a
def wI (s : sT) (a j : Nat) (v : Int32) : sT := (up1 s.1 a (up1 (s.1 a) j v), s.2)
def wJ (s : sT) (a j : Nat) (v : Int64) : sT := (s.1, up1 s.2.1 a (up1 (s.2.1 a) j v), s.2.2)
def wC (s : sT) (b : Nat) (g : Nat → Int32) : sT := (up1 s.1 b g, s.2)
def wO (s : sT) (o : Option Nat) : sT := (s.1, s.2.1, o)
def LN (a : Nat) : Nat := (SH0 a).2
theorem SP0_ne {t j : Nat} {o : Option Nat} (h : t ≠ 5) : SP0 o t j = SPc t j := by
  have e : Nat.beq t 5 = false := by
    cases hb : Nat.beq t 5 with
    | true => exact absurd (Nat.eq_of_beq_eq_true hb) h
    | false => rfl
  unfold SP0
  rw [e]
  rfl
theorem setP_mk (s : sT) (t : Nat) : setP (mk s) 5 1 (some t) = mk (wO s (some t)) := by
  have e : up1 (SP0 s.2.2) 5 (up1 (SP0 s.2.2 5) 1 (some t)) = SP0 (some t) := by
    funext a j
    unfold up1
    by_cases ha : a = 5
    · subst ha
      rw [if_pos rfl]
      by_cases hj : j = 1
      · subst hj
        rw [if_pos rfl]
        rfl
      · rw [if_neg hj]
        have hb : Nat.beq j 1 = false := by
          cases hb : Nat.beq j 1 with
          | true => exact absurd (Nat.eq_of_beq_eq_true hb) hj
          | false => rfl
        unfold SP0
        rw [hb, Bool.and_false]
        rfl
    · rw [if_neg ha]
      rw [SP0_ne ha, SP0_ne ha]
  show ((_ : (Nat × Nat)), (_ : Nat → Nat × Nat), (_ : Nat → Nat → Int32), (_ : Nat → Nat → Int64), up1 (SP0 s.2.2) 5 (up1 (SP0 s.2.2 5) 1 (some t))) = _
  rw [e]
  rfl
def arB (n a : Nat) : Bool := Nat.beq (SH0 a).1 n
def stB (t : Nat) : Bool := Nat.beq t 38 || (Nat.beq t 148 || (Nat.ble 45 t && (Nat.ble t 140 && Nat.beq (t % 5) 0)))
def fmB (t : Nat) : Bool := Nat.beq t 12 || (Nat.beq t 15 || (Nat.beq t 26 || (Nat.beq t 29 || Nat.beq t 157)))
def snB (t : Nat) : Bool := Nat.ble 1000001 t && Nat.ble t 1000035
/-- the place of a text -/
def sIx (t : Nat) : Nat := t % 1000 - 1
def strB (t : Nat) : List Int32 := mStrB (sIx t)
theorem st_lt {t : Nat} (h : stB t = true) : t < 241 := by
  unfold stB at h
  simp only [Bool.or_eq_true, Bool.and_eq_true, Nat.beq_eq, Nat.ble_eq] at h
  omega
theorem fm_lt {t : Nat} (h : fmB t = true) : t < 241 := by
  unfold fmB at h
  simp only [Bool.or_eq_true, Nat.beq_eq] at h
  omega
theorem st_all_ne : ∀ t, t < 241 → stB t = true → t ≠ 5 := by decide +kernel
theorem st_all_sh : ∀ t, t < 241 → stB t = true → Nat.beq (SH0 t).1 9 = true := by decide +kernel
theorem st_ne {t : Nat} (h : stB t = true) : t ≠ 5 := st_all_ne t (st_lt h) h
theorem st_sh {t : Nat} (h : stB t = true) : Nat.beq (SH0 t).1 9 = true := st_all_sh t (st_lt h) h
theorem st_all_p1 : ∀ t, t < 241 → stB t = true → SPc t 1 = some (t + 1) := by decide +kernel
theorem st_all_s1 : ∀ t, t < 241 → stB t = true → SH0 (t + 1) = (100, 25) := by decide +kernel
theorem st_p1 {t : Nat} (h : stB t = true) (o : Option Nat) : SP0 o t 1 = some (t + 1) := (SP0_ne (st_ne h)).trans (st_all_p1 t (st_lt h) h)
theorem st_s1 {t : Nat} (h : stB t = true) : SH0 (t + 1) = (100, 25) := st_all_s1 t (st_lt h) h
theorem st_a1 {t : Nat} (h : stB t = true) : arB 100 (t + 1) = true := by unfold arB; rw [st_s1 h]; rfl
theorem st_all_p2 : ∀ t, t < 241 → stB t = true → SPc t 2 = some (t + 2) := by decide +kernel
theorem st_all_s2 : ∀ t, t < 241 → stB t = true → SH0 (t + 2) = (100, 6) := by decide +kernel
theorem st_p2 {t : Nat} (h : stB t = true) (o : Option Nat) : SP0 o t 2 = some (t + 2) := (SP0_ne (st_ne h)).trans (st_all_p2 t (st_lt h) h)
theorem st_s2 {t : Nat} (h : stB t = true) : SH0 (t + 2) = (100, 6) := st_all_s2 t (st_lt h) h
theorem st_a2 {t : Nat} (h : stB t = true) : arB 100 (t + 2) = true := by unfold arB; rw [st_s2 h]; rfl
theorem st_all_p3 : ∀ t, t < 241 → stB t = true → SPc t 3 = some (t + 3) := by decide +kernel
theorem st_all_s3 : ∀ t, t < 241 → stB t = true → SH0 (t + 3) = (100, 6) := by decide +kernel
theorem st_p3 {t : Nat} (h : stB t = true) (o : Option Nat) : SP0 o t 3 = some (t + 3) := (SP0_ne (st_ne h)).trans (st_all_p3 t (st_lt h) h)
theorem st_s3 {t : Nat} (h : stB t = true) : SH0 (t + 3) = (100, 6) := st_all_s3 t (st_lt h) h
theorem st_a3 {t : Nat} (h : stB t = true) : arB 100 (t + 3) = true := by unfold arB; rw [st_s3 h]; rfl
theorem st_all_p4 : ∀ t, t < 241 → stB t = true → SPc t 4 = some (t + 4) := by decide +kernel
theorem st_all_s4 : ∀ t, t < 241 → stB t = true → SH0 (t + 4) = (100, 120) := by decide +kernel
theorem st_p4 {t : Nat} (h : stB t = true) (o : Option Nat) : SP0 o t 4 = some (t + 4) := (SP0_ne (st_ne h)).trans (st_all_p4 t (st_lt h) h)
theorem st_s4 {t : Nat} (h : stB t = true) : SH0 (t + 4) = (100, 120) := st_all_s4 t (st_lt h) h
theorem st_a4 {t : Nat} (h : stB t = true) : arB 100 (t + 4) = true := by unfold arB; rw [st_s4 h]; rfl
theorem fm_all_ne : ∀ t, t < 241 → fmB t = true → t ≠ 5 := by decide +kernel
theorem fm_all_sh : ∀ t, t < 241 → fmB t = true → Nat.beq (SH0 t).1 2 = true := by decide +kernel
theorem fm_ne {t : Nat} (h : fmB t = true) : t ≠ 5 := fm_all_ne t (fm_lt h) h
theorem fm_sh {t : Nat} (h : fmB t = true) : Nat.beq (SH0 t).1 2 = true := fm_all_sh t (fm_lt h) h
theorem fm_all_p0 : ∀ t, t < 241 → fmB t = true → SPc t 0 = some (t + 1) := by decide +kernel
theorem fm_all_s1 : ∀ t, t < 241 → fmB t = true → SH0 (t + 1) = (100, 1600) := by decide +kernel
theorem fm_p0 {t : Nat} (h : fmB t = true) (o : Option Nat) : SP0 o t 0 = some (t + 1) := (SP0_ne (fm_ne h)).trans (fm_all_p0 t (fm_lt h) h)
theorem fm_s1 {t : Nat} (h : fmB t = true) : SH0 (t + 1) = (100, 1600) := fm_all_s1 t (fm_lt h) h
theorem fm_a1 {t : Nat} (h : fmB t = true) : arB 100 (t + 1) = true := by unfold arB; rw [fm_s1 h]; rfl
theorem fm_all_p1 : ∀ t, t < 241 → fmB t = true → SPc t 1 = some (t + 2) := by decide +kernel
theorem fm_all_s2 : ∀ t, t < 241 → fmB t = true → SH0 (t + 2) = (100, 64) := by decide +kernel
theorem fm_p1 {t : Nat} (h : fmB t = true) (o : Option Nat) : SP0 o t 1 = some (t + 2) := (SP0_ne (fm_ne h)).trans (fm_all_p1 t (fm_lt h) h)
theorem fm_s2 {t : Nat} (h : fmB t = true) : SH0 (t + 2) = (100, 64) := fm_all_s2 t (fm_lt h) h
theorem fm_a2 {t : Nat} (h : fmB t = true) : arB 100 (t + 2) = true := by unfold arB; rw [fm_s2 h]; rfl
theorem hist_st {i : Int32} (h : vp_in i 20) : stB (45 + 5 * i.toNatClampNeg) = true := by
  have h2 : i.toNatClampNeg < 20 := by
    unfold vp_in at h
    omega
  revert h2
  generalize i.toNatClampNeg = k
  intro h2
  exact (by decide +kernel : ∀ k, k < 20 → stB (45 + 5 * k) = true) k h2
theorem hist_p {i : Int32} {o : Option Nat} (h : vp_in i 20) : SP0 o 44 i.toNatClampNeg = some (45 + 5 * i.toNatClampNeg) := by
  have h2 : i.toNatClampNeg < 20 := by
    unfold vp_in at h
    omega
  rw [SP0_ne (by decide)]
  revert h2
  generalize i.toNatClampNeg = k
  intro h2
  exact (by decide +kernel : ∀ k, k < 20 → SPc 44 k = some (45 + 5 * k)) k h2
theorem arB_eq {a n : Nat} (h : arB n a = true) : (SH0 a).1 = n := Nat.eq_of_beq_eq_true h
theorem arb {a n : Nat} (h : arB n a = true) : Nat.beq (SH0 a).1 n = true := h
theorem arb2 {a n m : Nat} (h : SH0 a = (n, m)) : Nat.beq (SH0 a).1 n = true := by rw [h]; exact Nat.beq_refl n
theorem ar_lit (a n : Nat) (h : SH0 a = (100, n)) : SH0 a = (100, n) := h
theorem ar_sh {a n : Nat} (h : arB n a = true) : SH0 a = (n, LN a) := by rw [← arB_eq h]; rfl
theorem arl {a : Nat} (h : arB 100 a = true) : (Nat.ble 100 (SH0 a).1 && Nat.ble (SH0 a).1 103) = true := by rw [arB_eq h]; rfl
theorem arl2 {a n : Nat} (h : SH0 a = (100, n)) : (Nat.ble 100 (SH0 a).1 && Nat.ble (SH0 a).1 103) = true := by rw [h]; rfl
theorem arlc {a : Nat} (h : arB 102 a = true) : (Nat.ble 100 (SH0 a).1 && Nat.ble (SH0 a).1 103) = true := by rw [arB_eq h]; rfl
theorem vin_of {a n m : Nat} {i : Int32} (hs : SH0 a = (m, n)) (h : vp_in i n) : vp_in i (SH0 a).2 := by rw [hs]; exact h
theorem cpg {a b n m : Nat} (ha : SH0 a = (100, n)) (hb : SH0 b = (100, m)) : (Nat.beq (SH0 a).1 100 && (Nat.beq (SH0 b).1 100 && true)) = true := by rw [ha, hb]; rfl
theorem cpy_of {a b n m : Nat} {P Q R : Prop} {x y z : Nat} (ha : SH0 a = (100, n)) (hb : SH0 b = (100, m)) (h : P ∧ Q ∧ R ∧ x + y ≤ n ∧ z + y ≤ m) : P ∧ Q ∧ R ∧ x + y ≤ (SH0 a).2 ∧ z + y ≤ (SH0 b).2 := by rw [ha, hb]; exact h
theorem cvg {b : Bool} (h : b = true) : (b && (true && true)) = true := by rw [h]; rfl
theorem gdi {b : Bool} {A : Prop} (h : b = true) (k : A) : gd b A := by rw [h]; exact k
-- places with the locals that are known
def lsub : mL → mL → Prop
  | [], ls => ls = []
  | none :: _, [] => False
  | none :: ps, _ :: vs => lsub ps vs
  | some _ :: _, [] => False
  | some v :: ps, w :: vs => w = some v ∧ lsub ps vs
theorem lsub_at : ∀ {ps ls : mL}, lsub ps ls → ls.length = ps.length ∧ ∀ (i : Nat) (v : Value), ps[i]? = some (some v) → ls[i]? = some (some v)
  | [], ls, h => by
    have h : ls = [] := h
    subst h
    exact ⟨rfl, fun i v q => by simp at q⟩
  | none :: ps, [], h => False.elim h
  | none :: ps, w :: vs, h => by
    obtain ⟨a, b⟩ := lsub_at (ps := ps) (ls := vs) h
    refine ⟨by simp [a], fun i v q => ?_⟩
    cases i with
    | zero => simp at q
    | succ i => exact b i v q
  | some _ :: _, [], h => False.elim h
  | some u :: ps, w :: vs, h => by
    obtain ⟨h1, h2⟩ : w = some u ∧ lsub ps vs := h
    obtain ⟨a, b⟩ := lsub_at h2
    refine ⟨by simp [a], fun i v q => ?_⟩
    cases i with
    | zero =>
      simp at q
      subst q
      simp [h1]
    | succ i => exact b i v q
theorem lsub_lR {ad : Nat → Nat} {ps ls : mL} {M : Array Slot} (h : lsub ps ls) (hL : lR ad ls M) : lR ad ps M := by
  obtain ⟨a, b⟩ := lsub_at h
  exact ⟨hL.1.trans a, hL.2.1, fun i v q => hL.2.2 i v (b i v q)⟩
theorem lsub_rf : ∀ ps : mL, lsub ps ps
  | [] => rfl
  | none :: ps => lsub_rf ps
  | some _ :: ps => ⟨rfl, lsub_rf ps⟩
def lf {V : Type} (pat : V → mL × List Value) (c : V → sT → Prop) : mK := fun ls st S => ∃ v s, lsub (pat v).1 ls ∧ st = (pat v).2 ∧ S = mk s ∧ c v s
def lf1 (p : mL × List Value) (c : sT → Prop) : mK := fun ls st S => ∃ s, lsub p.1 ls ∧ st = p.2 ∧ S = mk s ∧ c s
theorem lf_in {V : Type} {pat : V → mL × List Value} {c : V → sT → Prop} {v : V} {s : sT} {ls : mL} {st : List Value} (h1 : lsub (pat v).1 ls) (h2 : st = (pat v).2) (h : c v s) : lf pat c ls st (mk s) := ⟨v, s, h1, h2, rfl, h⟩
theorem m_mono {κ : mX} {pc : Nat} {K K' : mK} (h : mAt κ pc K') (i : ∀ ls st S, K ls st S → K' ls st S) : mAt κ pc K := by
  obtain ⟨⟨p, l, e, R, s⟩, ⟨m, args, below, meth, c⟩, ⟨D, dA, sz, ext, adV⟩, ⟨n0, w0, mc, ms⟩, Q⟩ := κ
  intro ls st S hK
  exact h ls st S (i ls st S hK)
theorem m_lf {κ : mX} {pc : Nat} {V : Type} {pat : V → mL × List Value} {c : V → sT → Prop} {K' : mK} (h : mAt κ pc K') (i : ∀ v s, c v s → K' (pat v).1 (pat v).2 (mk s)) : mAt κ pc (lf pat c) := by
  obtain ⟨⟨p, l, e, R, s⟩, ⟨m, args, below, meth, cc⟩, ⟨D, dA, sz, ext, adV⟩, ⟨n0, w0, mc, ms⟩, Q⟩ := κ
  intro ls st S hK H locs M hR hS hL hM hn
  obtain ⟨v, t, h1, rfl, rfl, h2⟩ := hK
  exact h _ _ _ (i v t h2) H locs M hR hS (lsub_lR h1 hL) hM hn
theorem lf_1 {κ : mX} {pc : Nat} {V : Type} {pat : V → mL × List Value} {c : V → sT → Prop} (h : mAt κ pc (lf pat c)) (v : V) : mAt κ pc (lf1 (pat v) (c v)) :=
  m_mono h fun _ _ _ ⟨s, h1, h2, h3, h4⟩ => ⟨v, s, h1, h2, h3, h4⟩
theorem m_ex {κ : mX} {pc : Nat} {V : Type} {pat : V → mL × List Value} {P : V → Prop} {c : V → sT → Prop} (h : ∀ v, P v → mAt κ pc (lf1 (pat v) (c v))) : mAt κ pc (lf pat (fun v s => P v ∧ c v s)) := by
  obtain ⟨⟨p, l, e, R, s⟩, ⟨m, args, below, meth, cc⟩, ⟨D, dA, sz, ext, adV⟩, ⟨n0, w0, mc, ms⟩, Q⟩ := κ
  intro ls st S hK
  obtain ⟨v, t, h1, h2, h3, h4, h5⟩ := hK
  exact h v h4 ls st S ⟨t, h1, h2, h3, h5⟩
theorem m_loop {κ : mX} {pc : Nat} {V : Type} {pat : V → mL × List Value} {B : (V → sT → Prop) → V → sT → Prop} {c : V → sT → Prop} (h : ∀ X : V → sT → Prop, mAt κ pc (lf pat X) → mAt κ pc (lf pat (B X))) (hc : ∀ v s, c v s → ∀ X : V → sT → Prop, (∀ v s, B X v s → X v s) → X v s) : mAt κ pc (lf pat c) := by
  obtain ⟨⟨p, l, e, R, s⟩, ⟨m, args, below, meth, cc⟩, ⟨D, dA, sz, ext, adV⟩, ⟨n0, w0, mc, ms⟩, Q⟩ := κ
  intro ls st S hK H locs M hR hS hL hM hn
  obtain ⟨v, t, h1, rfl, rfl, h2⟩ := hK
  have hX := h (fun v t => ∀ (H : Heap) (locs : List Loc) (M : Array Slot), mRep D dA sz ext (mk t) H → va_S (fun q => sz ≤ q) s.heap H locs → lR (mAd sz ext) (pat v).1 M → cc.maxLocals = M.size →
      (n0 ≤ sN (mk t) ∧ sN (mk t) ≤ n0 + mc ∧ w0 ≤ sW (mk t) ∧ sW (mk t) ≤ w0 + ms) →
      W p l e R s m args below meth cc H locs (sN (mk t) - n0) (sW (mk t) - w0) Q (F0 m pc M ((pat v).2.map (cv (mAd sz ext))))) (by
    intro ls st S hK H locs M hR hS hL hM hn
    obtain ⟨v, t, h1, rfl, rfl, h2⟩ := hK
    exact h2 H locs M hR hS (lsub_lR h1 hL) hM hn)
  exact hc v t h2 _ (fun v t hb H locs M hR hS hL hM hn => hX _ _ _ ⟨v, t, lsub_rf _, rfl, rfl, hb⟩ H locs M hR hS hL hM hn) H locs M hR hS (lsub_lR h1 hL) hM hn
-- contracts of methods that make nothing
def Fi {V : Type} (pat : V → List Value) (c : V → (Int32 → sT → Prop) → sT → Prop) : mF := fun av S Q => ∃ v s Qc, av = pat v ∧ S = mk s ∧ c v Qc s ∧ ∀ r s', Qc r s' → Q (some (.int r)) (mk s')
def Fj {V : Type} (pat : V → List Value) (c : V → (Int64 → sT → Prop) → sT → Prop) : mF := fun av S Q => ∃ v s Qc, av = pat v ∧ S = mk s ∧ c v Qc s ∧ ∀ r s', Qc r s' → Q (some (.long r)) (mk s')
def Fu {V : Type} (pat : V → List Value) (c : V → (sT → Prop) → sT → Prop) : mF := fun av S Q => ∃ v s Qc, av = pat v ∧ S = mk s ∧ c v Qc s ∧ ∀ s', Qc s' → Q none (mk s')
theorem Met.ofWF {l : Launch} {y : MethodName} {ws ws' : List Cond} {rm : Room} {Pc : Array Value → State → Prop} {Qc : Array Value → State → Outcome → State → Prop} {mc ms : Nat} {free : Addr → Prop} {cc : ByteArray} {maxL : Nat} {ret : Option FieldType}
    (hy : plainFor y = true) (hw : ws = Cond.code y cc maxL ret :: ws')
    (body : ∀ p e s m args below meth c s₁, BodyLoose p l y (headSpec ws rm) cc maxL ret e s m args below meth c s₁ → c.maxLocals = maxL → Pc args s →
      W p l e (headSpec ws rm).room s m args below meth c s.heap [] 0 0 (MQ below Qc args s mc ms free) (entryFrame m args maxL)) : Met l y ws rm Pc Qc mc ms free := by
  refine MetFree.of_bodySF (code := cc) (maxLocals := maxL) (ret := ret) hy ?_ ?_
  · intro args s m h hn
    obtain ⟨meth, c, h1, h2, h3, h4, h5, h6, -, -⟩ := Cond.code_spec hn (atoms_spec (ws := ws) h _ (by rw [hw]; exact List.mem_cons_self))
    exact ⟨meth, c, h1, h2, h3, h4, h5, h6⟩
  · intro p e s m args below meth c s₁ B hml hP _
    have hh0 : s₁.heap = s.heap := by rw [B.state]; rfl
    obtain ⟨t, a1, o, b1, b2, b3⟩ := body p e s m args below meth c s₁ B hml hP s₁ hh0 (Stand.of_body B)
    exact ⟨t, o, a1, b1, b2, ⟨b3.1, b3.2⟩⟩
theorem fd_rows : (Jvm.natives.all fun r => r.cls != "java/lang/Math" || r.name != "floorDiv") = true := by decide +kernel
theorem plain_fd : plainFor yJ9_floorDiv_7cf53 = true := by
  unfold plainFor
  rw [Bool.or_eq_true]
  right
  rw [Option.isNone_iff_eq_none, NativeRow.find?, List.find?_eq_none]
  intro r hr h
  have q := List.all_eq_true.mp fd_rows r hr
  simp only [Bool.and_eq_true, beq_iff_eq] at h
  rw [h.1.1, h.1.2] at q
  exact absurd q (by decide)
theorem mMet.of0 {y : MethodName} {cc : ByteArray} {nL : Nat} {ret : Option FieldType} {dep : Nat} {F : mF} (hy : plainFor y = true) (K : mQ → mK)
    (hF : ∀ av S Q, F av S Q → (ent0 av).length ≤ nL ∧ K Q (entl nL av) [] S)
    (body : ∀ (κ : mX) (Q : mQ), mOk κ cc y.cls dep → mRet κ y.name ret Q → mNoc κ → mAt κ 0 (K Q)) : mMet y cc nL ret dep 0 0 F := by
  intro l D dA sz ext adV av S Q hQ
  obtain ⟨hlen, hK⟩ := hF av S Q hQ
  refine Met.ofWF (cc := cc) (maxL := nL) (ret := ret) hy rfl ?_
  intro p e s m args below meth c s₁ B hml hv
  obtain ⟨rfl, hR, hKn, hsz, hE⟩ := hv
  have hts := atoms_spec (ws := Cond.code y cc nL ret :: mU) B.pre
  rw [lg_entry_eq]
  have hl := ent_lR (mAd sz ext) av hlen
  have b := body ((p, l, e, mRoom dep 0 0, s), (m, (av.map (cv (mAd sz ext))).toArray, below, meth, c), (D, dA, sz, ext, adV), (sN S, sW S, 0, 0), MQ below (mQc D dA sz ext (sN S + 0) (sW S + 0) Q) (av.map (cv (mAd sz ext))).toArray s 0 0 (fun q => sz ≤ q)) Q
    ⟨B.exec, B.bytes, findClass_of_methodNamed B.named, fun w hw => hts w (List.mem_cons_of_mem _ hw), hKn, hsz, ⟨Nat.le_refl _, Nat.le_refl _⟩, ⟨rfl, rfl⟩, hE⟩
    ⟨B.returns, B.notSynchronized, (name_of_methodNamed B.named B.method).1, rfl⟩ ⟨rfl, rfl⟩
  have b2 := b _ _ _ hK s.heap [] _ hR va_S.rf hl (by rw [hml, hl.1]; simp [entl]; omega) ⟨Nat.le_refl _, Nat.le_add_right _ _, Nat.le_refl _, Nat.le_add_right _ _⟩
  rw [Nat.sub_self, Nat.sub_self] at b2
  exact b2
theorem m_some {κ : mX} {pc : Nat} {α : Type} {K : α → mK} {P : α → Prop} (h : ∀ x, P x → mAt κ pc (K x)) : mAt κ pc (fun ls st S => ∃ x, P x ∧ K x ls st S) := by
  obtain ⟨⟨p, l, e, R, s⟩, ⟨m, args, below, meth, cc⟩, ⟨D, dA, sz, ext, adV⟩, ⟨n0, w0, mc, ms⟩, Q⟩ := κ
  intro ls st S hK
  obtain ⟨x, h1, h2⟩ := hK
  exact h x h1 ls st S h2
theorem mMet_i {y : MethodName} {cc : ByteArray} {nL dep : Nat} {ret : Option FieldType} {V : Type} {pat : V → List Value} {lp : V → mL} {c : V → (Int32 → sT → Prop) → sT → Prop} (hy : plainFor y = true) (hl : ∀ v, (ent0 (pat v)).length ≤ nL ∧ entl nL (pat v) = lp v)
    (body : ∀ (κ : mX) (Q : mQ) (Qc : Int32 → sT → Prop), mOk κ cc y.cls dep → mRet κ y.name ret Q → mNoc κ → (∀ r s, Qc r s → Q (some (.int r)) (mk s)) → mAt κ 0 (lf (fun v => (lp v, [])) (fun v s => c v Qc s))) : mMet y cc nL ret dep 0 0 (Fi pat c) :=
  mMet.of0 hy (fun Q ls st S => ∃ Qc : Int32 → sT → Prop, (∀ r s, Qc r s → Q (some (.int r)) (mk s)) ∧ lf (fun v => (lp v, [])) (fun v s => c v Qc s) ls st S)
    (fun av S Q ⟨v, s, Qc, h1, h2, h3, h4⟩ => by subst h1 h2; exact ⟨(hl v).1, Qc, h4, v, s, by rw [(hl v).2]; exact lsub_rf _, rfl, rfl, h3⟩)
    (fun κ Q C R h0 => m_some fun Qc hQ => body κ Q Qc C R h0 hQ)
theorem mMet_j {y : MethodName} {cc : ByteArray} {nL dep : Nat} {ret : Option FieldType} {V : Type} {pat : V → List Value} {lp : V → mL} {c : V → (Int64 → sT → Prop) → sT → Prop} (hy : plainFor y = true) (hl : ∀ v, (ent0 (pat v)).length ≤ nL ∧ entl nL (pat v) = lp v)
    (body : ∀ (κ : mX) (Q : mQ) (Qc : Int64 → sT → Prop), mOk κ cc y.cls dep → mRet κ y.name ret Q → mNoc κ → (∀ r s, Qc r s → Q (some (.long r)) (mk s)) → mAt κ 0 (lf (fun v => (lp v, [])) (fun v s => c v Qc s))) : mMet y cc nL ret dep 0 0 (Fj pat c) :=
  mMet.of0 hy (fun Q ls st S => ∃ Qc : Int64 → sT → Prop, (∀ r s, Qc r s → Q (some (.long r)) (mk s)) ∧ lf (fun v => (lp v, [])) (fun v s => c v Qc s) ls st S)
    (fun av S Q ⟨v, s, Qc, h1, h2, h3, h4⟩ => by subst h1 h2; exact ⟨(hl v).1, Qc, h4, v, s, by rw [(hl v).2]; exact lsub_rf _, rfl, rfl, h3⟩)
    (fun κ Q C R h0 => m_some fun Qc hQ => body κ Q Qc C R h0 hQ)
theorem mMet_v {y : MethodName} {cc : ByteArray} {nL dep : Nat} {ret : Option FieldType} {V : Type} {pat : V → List Value} {lp : V → mL} {c : V → (sT → Prop) → sT → Prop} (hy : plainFor y = true) (hl : ∀ v, (ent0 (pat v)).length ≤ nL ∧ entl nL (pat v) = lp v)
    (body : ∀ (κ : mX) (Q : mQ) (Qc : sT → Prop), mOk κ cc y.cls dep → mRet κ y.name ret Q → mNoc κ → (∀ s, Qc s → Q none (mk s)) → mAt κ 0 (lf (fun v => (lp v, [])) (fun v s => c v Qc s))) : mMet y cc nL ret dep 0 0 (Fu pat c) :=
  mMet.of0 hy (fun Q ls st S => ∃ Qc : sT → Prop, (∀ s, Qc s → Q none (mk s)) ∧ lf (fun v => (lp v, [])) (fun v s => c v Qc s) ls st S)
    (fun av S Q ⟨v, s, Qc, h1, h2, h3, h4⟩ => by subst h1 h2; exact ⟨(hl v).1, Qc, h4, v, s, by rw [(hl v).2]; exact lsub_rf _, rfl, rfl, h3⟩)
    (fun κ Q C R h0 => m_some fun Qc hQ => body κ Q Qc C R h0 hQ)
theorem mMet_no {y : MethodName} {cc : ByteArray} {nL dep mc ms : Nat} {ret : Option FieldType} {F : mF} (h : ∀ av S Q, F av S Q → False) : mMet y cc nL ret dep mc ms F := fun _ _ _ _ _ _ _ _ _ hF => (h _ _ _ hF).elim
theorem cmp_eq {x y : Int64} : lg_cmp x y = 0 ↔ x = y := by
  unfold lg_cmp
  by_cases h : x > y
  · rw [if_pos h]
    exact ⟨fun q => absurd q (by decide), fun q => absurd h (by subst q; exact Int64.lt_irrefl)⟩
  · rw [if_neg h]
    by_cases h2 : x = y
    · rw [if_pos h2]; exact ⟨fun _ => h2, fun _ => rfl⟩
    · rw [if_neg h2]; exact ⟨fun q => absurd q (by decide), fun q => absurd q h2⟩
theorem cmp_gt {x y : Int64} : 0 < lg_cmp x y ↔ y < x := by
  unfold lg_cmp
  by_cases h : x > y
  · rw [if_pos h]
    exact ⟨fun _ => h, fun _ => by decide⟩
  · rw [if_neg h]
    by_cases h2 : x = y
    · rw [if_pos h2]; exact ⟨fun q => absurd q (by decide), fun q => absurd q h⟩
    · rw [if_neg h2]; exact ⟨fun q => absurd q (by decide), fun q => absurd q h⟩
theorem cmp_lt {x y : Int64} : lg_cmp x y < 0 ↔ x < y := by
  unfold lg_cmp
  by_cases h : x > y
  · rw [if_pos h]
    exact ⟨fun q => absurd q (by decide), fun q => absurd (Int64.lt_trans q h) Int64.lt_irrefl⟩
  · rw [if_neg h]
    by_cases h2 : x = y
    · rw [if_pos h2]; exact ⟨fun q => absurd q (by decide), fun q => absurd q (by subst h2; exact Int64.lt_irrefl)⟩
    · rw [if_neg h2]
      refine ⟨fun _ => ?_, fun _ => by decide⟩
      have h3 : ¬ y.toInt < x.toInt := fun q => h (Int64.lt_iff_toInt_lt.mpr q)
      have h4 : ¬ x.toInt = y.toInt := fun q => h2 (Int64.toInt_inj.mp q)
      exact Int64.lt_iff_toInt_lt.mpr (by omega)
-- rows that read a reference in other words
abbrev o_getPf (ci j : Nat) (f : Nat → Nat) (K : mK) : mK := fun ls st S => match st with
  | .ref a :: st => gd (Nat.beq (sH S a).1 ci) (sP S a j = some (f a) ∧ K ls (.ref (f a) :: st) S)
  | _ => False
theorem m_getPf {κ : mX} {pc ci j : Nat} {f : Nat → Nat} {K : mK} (h : mAt κ pc (o_getP ci j K)) : mAt κ pc (o_getPf ci j f K) := m_mono h fun ls st S q => by
  unfold o_getPf at q
  unfold o_getP
  split at q
  · obtain ⟨g, q1, q2⟩ := gd_of q
    refine gdi g ?_
    rw [q1]
    exact q2
  · exact q.elim
abbrev o_getPd (ci j : Nat) (K : mK) : mK := fun ls st S => match st with
  | .ref a :: st => gd (Nat.beq (sH S a).1 ci) ((sP S a j = none → K ls (.null :: st) S) ∧ ∀ b, sP S a j = some b → K ls (.ref b :: st) S)
  | _ => False
theorem m_getPd {κ : mX} {pc ci j : Nat} {K : mK} (h : mAt κ pc (o_getP ci j K)) : mAt κ pc (o_getPd ci j K) := m_mono h fun ls st S q => by
  unfold o_getPd at q
  unfold o_getP
  split at q
  · rename_i a st
    obtain ⟨g, q1, q2⟩ := gd_of q
    refine gdi g ?_
    cases e : sP S a j with
    | none => exact q1 e
    | some b => exact q2 b e
  · exact q.elim
abbrev o_getPe (ci j : Nat) (K : mK) : mK := fun ls st S => match st with
  | .ref a :: st => gd (Nat.beq (sH S a).1 ci) (∃ b, sP S a j = some b ∧ K ls (.ref b :: st) S)
  | _ => False
theorem m_getPe {κ : mX} {pc ci j : Nat} {K : mK} (h : mAt κ pc (o_getP ci j K)) : mAt κ pc (o_getPe ci j K) := m_mono h fun ls st S q => by
  unfold o_getPe at q
  unfold o_getP
  split at q
  · obtain ⟨g, b, q1, q2⟩ := gd_of q
    refine gdi g ?_
    rw [q1]
    exact q2
  · exact q.elim
abbrev o_putO (ci j : Nat) (K : mK) : mK := fun ls st S => match st with
  | .ref b :: .ref a :: st => gd (Nat.beq (sH S a).1 ci) (∃ S', setP S a j (some b) = S' ∧ K ls st S')
  | _ => False
theorem m_putO {κ : mX} {pc ci j : Nat} {K : mK} (h : mAt κ pc (o_putP ci j K)) : mAt κ pc (o_putO ci j K) := m_mono h fun ls st S q => by
  unfold o_putO at q
  unfold o_putP
  split at q
  · obtain ⟨g, S', q1, q2⟩ := gd_of q
    refine gdi g ?_
    rw [q1]
    exact q2
  · exact q.elim
abbrev o_aaldf (f : Nat → Nat) (K : mK) : mK := fun ls st S => match st with
  | .int i :: .ref a :: st => gd (Nat.beq (sH S a).1 103) (vp_in i (sH S a).2 ∧ (sP S a i.toNatClampNeg = some (f i.toNatClampNeg) ∧ K ls (.ref (f i.toNatClampNeg) :: st) S))
  | _ => False
theorem m_aaldf {κ : mX} {pc : Nat} {K : mK} (h : mAt κ pc (o_aald K)) : mAt κ pc (o_aaldf (fun k => 45 + 5 * k) K) := m_mono h fun ls st S q => by
  unfold o_aaldf at q
  unfold o_aald
  split at q
  · obtain ⟨g, q0, q1, q2⟩ := gd_of q
    refine gdi g ⟨q0, ?_⟩
    rw [q1]
    exact q2
  · exact q.elim
abbrev o_alenf (n : Nat) (K : mK) : mK := fun ls st S => match st with
  | .ref a :: st => gd (Nat.ble 100 (sH S a).1 && Nat.ble (sH S a).1 103) ((sH S a).2 = n ∧ K ls (.int (Int32.ofNat n) :: st) S)
  | _ => False
theorem m_alenf {κ : mX} {pc n : Nat} {K : mK} (h : mAt κ pc (o_alen K)) : mAt κ pc (o_alenf n K) := m_mono h fun ls st S q => by
  unfold o_alenf at q
  unfold o_alen
  split at q
  · obtain ⟨g, q1, q2⟩ := gd_of q
    refine gdi g ?_
    rw [q1]
    exact q2
  · exact q.elim
-- least and greatest
abbrev o_iig (f : Int32 → Int32 → Int32) (K : mK) : mK := fun ls st S => match st with
  | .int y :: .int x :: st => gd (Nat.ble st.length 4) (K ls (.int (f x y) :: st) S)
  | _ => False
abbrev o_jjg (f : Int64 → Int64 → Int64) (K : mK) : mK := fun ls st S => match st with
  | .long y :: .long x :: st => gd (Nat.ble st.length 4) (K ls (.long (f x y) :: st) S)
  | _ => False
theorem m_mmin {κ : mX} {cc : ByteArray} {own : String} {dep : Nat} (C : mOk κ cc own dep) {pc index : Nat} {K : mK} (d : decode cc pc = .ok (.invokestatic index, 3)) (hd : 1 ≤ dep) (w1 : Cond.methodLink own index Lib.Math.min.name ∈ mU) (w2 : Cond.static Lib.Math.min.name ∈ mU) (w3 : Cond.initialized "java/lang/Math" ∈ mU) (w4 : Cond.code Lib.Math.min.name Lib.Math.min.code 2 (some .int) ∈ mU) (h : mAt κ (pc + 3) K) : mAt κ pc (o_iig (fun x y => if y < x then y else x) K) := by
  obtain ⟨⟨p, l, e, R, s⟩, ⟨m, args, below, meth, c⟩, ⟨D, dA, sz, ext, adV⟩, ⟨n0, w0, mc, ms⟩, Q⟩ := κ
  intro ls st S hK H locs M hR hS hL hM2 hn
  obtain ⟨hx, hb, hown, hts, hKn, hsz, hroom, hrc, hE⟩ := id C
  unfold o_iig at hK
  split at hK
  · rename_i y x st
    obtain ⟨hg, hK⟩ := gd_of hK
    have g2 := Nat.le_of_ble_eq_true hg
    refine va_mmin hx hb hM2 hown (hts _ w1) (hts _ w2) (hts _ w3) (hts _ w4) (Nat.le_trans hd hroom.1) ?_ (by rw [hrc.1]; omega) (by rw [hrc.2]; omega) d (h _ _ _ hK H locs M hR hS hL hM2 hn)
    have := cat_sum (mAd sz ext) st
    have := hroom.2
    omega
  · exact hK.elim
theorem m_mmax {κ : mX} {cc : ByteArray} {own : String} {dep : Nat} (C : mOk κ cc own dep) {pc index : Nat} {K : mK} (d : decode cc pc = .ok (.invokestatic index, 3)) (hd : 1 ≤ dep) (w1 : Cond.methodLink own index Lib.Math.max.name ∈ mU) (w2 : Cond.static Lib.Math.max.name ∈ mU) (w3 : Cond.initialized "java/lang/Math" ∈ mU) (w4 : Cond.code Lib.Math.max.name Lib.Math.max.code 2 (some .int) ∈ mU) (h : mAt κ (pc + 3) K) : mAt κ pc (o_iig (fun x y => if x < y then y else x) K) := by
  obtain ⟨⟨p, l, e, R, s⟩, ⟨m, args, below, meth, c⟩, ⟨D, dA, sz, ext, adV⟩, ⟨n0, w0, mc, ms⟩, Q⟩ := κ
  intro ls st S hK H locs M hR hS hL hM2 hn
  obtain ⟨hx, hb, hown, hts, hKn, hsz, hroom, hrc, hE⟩ := id C
  unfold o_iig at hK
  split at hK
  · rename_i y x st
    obtain ⟨hg, hK⟩ := gd_of hK
    have g2 := Nat.le_of_ble_eq_true hg
    refine va_mmax hx hb hM2 hown (hts _ w1) (hts _ w2) (hts _ w3) (hts _ w4) (Nat.le_trans hd hroom.1) ?_ (by rw [hrc.1]; omega) (by rw [hrc.2]; omega) d (h _ _ _ hK H locs M hR hS hL hM2 hn)
    have := cat_sum (mAd sz ext) st
    have := hroom.2
    omega
  · exact hK.elim
theorem m_mminj {κ : mX} {cc : ByteArray} {own : String} {dep : Nat} (C : mOk κ cc own dep) {pc index : Nat} {K : mK} (d : decode cc pc = .ok (.invokestatic index, 3)) (hd : 1 ≤ dep) (w1 : Cond.methodLink own index Lib.MathLoose.min_long.x ∈ mU) (w2 : Cond.static Lib.MathLoose.min_long.x ∈ mU) (w3 : Cond.initialized "java/lang/Math" ∈ mU) (w4 : Cond.code Lib.MathLoose.min_long.x Lib.MathLoose.min_long.code 4 (some .long) ∈ mU) (h : mAt κ (pc + 3) K) : mAt κ pc (o_jjg (fun x y => if y < x then y else x) K) := by
  obtain ⟨⟨p, l, e, R, s⟩, ⟨m, args, below, meth, c⟩, ⟨D, dA, sz, ext, adV⟩, ⟨n0, w0, mc, ms⟩, Q⟩ := κ
  intro ls st S hK H locs M hR hS hL hM2 hn
  obtain ⟨hx, hb, hown, hts, hKn, hsz, hroom, hrc, hE⟩ := id C
  unfold o_jjg at hK
  split at hK
  · rename_i y x st
    obtain ⟨hg, hK⟩ := gd_of hK
    have g2 := Nat.le_of_ble_eq_true hg
    refine va_mmin_long hx hb hM2 hown (hts _ w1) (hts _ w2) (hts _ w3) (hts _ w4) (Nat.le_trans hd hroom.1) ?_ (by rw [hrc.1]; omega) (by rw [hrc.2]; omega) d (h _ _ _ hK H locs M hR hS hL hM2 hn)
    have := cat_sum (mAd sz ext) st
    have := hroom.2
    omega
  · exact hK.elim
theorem m_mmaxj {κ : mX} {cc : ByteArray} {own : String} {dep : Nat} (C : mOk κ cc own dep) {pc index : Nat} {K : mK} (d : decode cc pc = .ok (.invokestatic index, 3)) (hd : 1 ≤ dep) (w1 : Cond.methodLink own index Lib.MathLoose.max_long.x ∈ mU) (w2 : Cond.static Lib.MathLoose.max_long.x ∈ mU) (w3 : Cond.initialized "java/lang/Math" ∈ mU) (w4 : Cond.code Lib.MathLoose.max_long.x Lib.MathLoose.max_long.code 4 (some .long) ∈ mU) (h : mAt κ (pc + 3) K) : mAt κ pc (o_jjg (fun x y => if y < x then x else y) K) := by
  obtain ⟨⟨p, l, e, R, s⟩, ⟨m, args, below, meth, c⟩, ⟨D, dA, sz, ext, adV⟩, ⟨n0, w0, mc, ms⟩, Q⟩ := κ
  intro ls st S hK H locs M hR hS hL hM2 hn
  obtain ⟨hx, hb, hown, hts, hKn, hsz, hroom, hrc, hE⟩ := id C
  unfold o_jjg at hK
  split at hK
  · rename_i y x st
    obtain ⟨hg, hK⟩ := gd_of hK
    have g2 := Nat.le_of_ble_eq_true hg
    refine va_mmax_long hx hb hM2 hown (hts _ w1) (hts _ w2) (hts _ w3) (hts _ w4) (Nat.le_trans hd hroom.1) ?_ (by rw [hrc.1]; omega) (by rw [hrc.2]; omega) d (h _ _ _ hK H locs M hR hS hL hM2 hn)
    have := cat_sum (mAd sz ext) st
    have := hroom.2
    omega
  · exact hK.elim
-- texts
theorem m_ldcs {κ : mX} {cc : ByteArray} {own : String} {dep : Nat} (C : mOk κ cc own dep) {pc index i : Nat} {K : mK} (d : decode cc pc = .ok (.ldc index, 2)) (hi : i < mStrN) (he : mStr i = (own, index, (mStr i).2.2)) (h : mAt κ (pc + 2) K) : mAt κ pc (o_push (.ref (1000001 + i)) K) := by
  obtain ⟨⟨p, l, e, R, s⟩, ⟨m, args, below, meth, c⟩, ⟨D, dA, sz, ext, adV⟩, ⟨n0, w0, mc, ms⟩, Q⟩ := κ
  intro ls st S hK H locs M hR hS hL hM2 hn
  obtain ⟨hx, hb, hown, hts, hKn, hsz, hroom, hrc, hE⟩ := id C
  have hZ := (hE.2.2.1 i hi).1
  have e1 : (mStr i).1 = own := congrArg Prod.fst he
  have e2 : (mStr i).2.1 = index := congrArg (fun q => q.2.1) he
  rw [e1, e2] at hZ
  have had : mAd sz ext (1000001 + i) = ext (i + 1) := by
    unfold mAd
    rw [if_neg (by omega), show 1000001 + i - 1000000 = i + 1 by omega]
  have h3 := h _ _ _ hK H locs M hR hS hL hM2 hn
  rw [List.map_cons, show cv (mAd sz ext) (.ref (1000001 + i)) = .ref (ext (i + 1)) by show Value.ref _ = _; rw [had]] at h3
  exact va_ldcS hx hb hown hZ d h3
def cS_length (t : Nat) (Q : Int32 → sT → Prop) (s : sT) : Prop := snB t = true ∧ Q (Int32.ofNat (strB t).length) s
def cS_charAt (t : Nat) (i : Int32) (Q : Int32 → sT → Prop) (s : sT) : Prop := snB t = true ∧ vp_in i (strB t).length ∧ Q ((strB t).getD i.toNatClampNeg 0) s
-- switches, each target with its own plain words
def swAll (κ : mX) : List (Int32 × mK) → List Nat → Prop
  | [], _ => True
  | _ :: _, [] => False
  | q :: cs, t :: tg => mAt κ t q.2 ∧ swAll κ cs tg
theorem swAll_at {κ : mX} : ∀ {cs : List (Int32 × mK)} {tg : List Nat}, swAll κ cs tg → ∀ (i : Nat) (q : Int32 × mK) (t : Nat), cs[i]? = some q → tg[i]? = some t → mAt κ t q.2
  | [], _, _, i, q, t, h, _ => by simp at h
  | _ :: _, [], h, _, _, _, _, _ => h.elim
  | c :: cs, g :: tg, h, i, q, t, h1, h2 => by
    cases i with
    | zero =>
      simp at h1 h2
      subst h1 h2
      exact h.1
    | succ i => exact swAll_at h.2 i q t (by simpa using h1) (by simpa using h2)
theorem m_tabw {κ : mX} {cc : ByteArray} {own : String} {dep : Nat} (C : mOk κ cc own dep) {pc len tD : Nat} {dflt lo hi : Int} {offs : Array Int} {vs : List Int32} {ks : List mK} {tg : List Nat} {Kd : mK} (d : decode cc pc = .ok (.tableswitch dflt lo hi offs, len)) (ho : offs.toList = tg.map (fun (t : Nat) => (t : Int) - (pc : Int))) (hv : vs.map (fun q => q.toInt) = (List.range vs.length).map (fun (i : Nat) => lo + (i : Int))) (hh : hi + 1 = lo + vs.length) (hl : tg.length = vs.length) (hk : ks.length = vs.length) (hD : (pc : Int) + dflt = (tD : Int)) (h1 : swAll κ (vs.zip ks) tg) (h2 : mAt κ tD Kd) : mAt κ pc (o_sw (vs.zip ks) Kd) := by
  have hz : (vs.zip ks).length = vs.length := by rw [List.length_zip, hk, Nat.min_self]
  refine m_table C d (fun i q hq => ?_) (by rw [hz]; exact hh) ho (by rw [hz]; exact hl) hD (swAll_at h1) h2
  have h3 := congrArg (fun l => l[i]?) hv
  have hlt : i < vs.length := hz ▸ (List.getElem?_eq_some_iff.mp hq).1
  rw [List.getElem?_zip_eq_some] at hq
  simp only [List.getElem?_map, hq.1, List.getElem?_range hlt, Option.map_some] at h3
  exact Option.some.inj h3
theorem m_lookw {κ : mX} {cc : ByteArray} {own : String} {dep : Nat} (C : mOk κ cc own dep) {pc len tD : Nat} {dflt : Int} {ps : Array (Int × Int)} {cs : List (Int32 × mK)} {tg : List Nat} {Kd : mK} (d : decode cc pc = .ok (.lookupswitch dflt ps, len)) (hp : (ps.toList.zip (ps.toList.drop 1)).all (fun (a, next) => a.1 < next.1) = true) (ho : ps.toList = (cs.map (fun q => q.1.toInt)).zip (tg.map (fun (t : Nat) => (t : Int) - (pc : Int)))) (hl : tg.length = cs.length) (hD : (pc : Int) + dflt = (tD : Int)) (h1 : swAll κ cs tg) (h2 : mAt κ tD Kd) : mAt κ pc (o_sw cs Kd) :=
  m_lookup C d hp (by rw [ho, List.zip_map]; rfl) hl hD (swAll_at h1) h2
