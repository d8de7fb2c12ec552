/-! Each method: its code, its links (by program, wip/whole/okgen.py). -/
set_option maxRecDepth 100000 in
theorem ok0 : zOkM 0 = true := by decide +kernel
set_option maxRecDepth 100000 in
theorem ok1 : zOkM 1 = true := by decide +kernel
set_option maxRecDepth 100000 in
theorem ok2 : zOkM 2 = true := by decide +kernel
set_option maxRecDepth 100000 in
theorem ok3 : zOkM 3 = true := by decide +kernel
set_option maxRecDepth 100000 in
theorem ok4 : zOkM 4 = true := by decide +kernel
set_option maxRecDepth 100000 in
theorem ok5 : zOkM 5 = true := by decide +kernel
set_option maxRecDepth 100000 in
theorem ok6 : zOkM 6 = true := by decide +kernel
set_option maxRecDepth 100000 in
theorem ok7 : zOkM 7 = true := by decide +kernel
set_option maxRecDepth 100000 in
theorem ok8 : zOkM 8 = true := by decide +kernel
set_option maxRecDepth 100000 in
theorem ok9 : zOkM 9 = true := by decide +kernel
set_option maxRecDepth 100000 in
theorem ok10 : zOkM 10 = true := by decide +kernel
set_option maxRecDepth 100000 in
theorem ok11 : zOkM 11 = true := by decide +kernel
set_option maxRecDepth 100000 in
theorem ok12 : zOkM 12 = true := by decide +kernel
set_option maxRecDepth 100000 in
theorem ok13 : zOkM 13 = true := by decide +kernel
set_option maxRecDepth 100000 in
theorem ok14 : zOkM 14 = true := by decide +kernel
set_option maxRecDepth 100000 in
theorem ok15 : zOkM 15 = true := by decide +kernel
set_option maxRecDepth 100000 in
theorem ok16 : zOkM 16 = true := by decide +kernel
set_option maxRecDepth 100000 in
theorem ok17 : zOkM 17 = true := by decide +kernel
set_option maxRecDepth 100000 in
theorem ok18 : zOkM 18 = true := by decide +kernel
set_option maxRecDepth 100000 in
theorem ok19 : zOkM 19 = true := by decide +kernel
set_option maxRecDepth 100000 in
theorem ok20 : zOkM 20 = true := by decide +kernel
set_option maxRecDepth 100000 in
theorem ok21 : zOkM 21 = true := by decide +kernel
set_option maxRecDepth 100000 in
theorem ok22 : zOkM 22 = true := by decide +kernel
set_option maxRecDepth 100000 in
theorem ok23 : zOkM 23 = true := by decide +kernel
set_option maxRecDepth 100000 in
theorem ok24 : zOkM 24 = true := by decide +kernel
set_option maxRecDepth 100000 in
theorem ok25 : zOkM 25 = true := by decide +kernel
set_option maxRecDepth 100000 in
theorem ok26 : zOkM 26 = true := by decide +kernel
set_option maxRecDepth 100000 in
theorem ok27 : zOkM 27 = true := by decide +kernel
set_option maxRecDepth 100000 in
theorem ok28 : zOkM 28 = true := by decide +kernel
set_option maxRecDepth 100000 in
theorem ok29 : zOkM 29 = true := by decide +kernel
set_option maxRecDepth 100000 in
theorem ok30 : zOkM 30 = true := by decide +kernel
set_option maxRecDepth 100000 in
theorem ok31 : zOkM 31 = true := by decide +kernel
set_option maxRecDepth 100000 in
theorem ok32 : zOkM 32 = true := by decide +kernel
set_option maxRecDepth 100000 in
theorem ok33 : zOkM 33 = true := by decide +kernel
set_option maxRecDepth 100000 in
theorem ok34 : zOkM 34 = true := by decide +kernel
set_option maxRecDepth 100000 in
theorem ok35 : zOkM 35 = true := by decide +kernel
set_option maxRecDepth 100000 in
theorem ok36 : zOkM 36 = true := by decide +kernel
set_option maxRecDepth 100000 in
theorem ok37 : zOkM 37 = true := by decide +kernel
set_option maxRecDepth 100000 in
theorem ok38 : zOkM 38 = true := by decide +kernel
set_option maxRecDepth 100000 in
theorem ok39 : zOkM 39 = true := by decide +kernel
set_option maxRecDepth 100000 in
theorem ok40 : zOkM 40 = true := by decide +kernel
set_option maxRecDepth 100000 in
theorem ok41 : zOkM 41 = true := by decide +kernel
set_option maxRecDepth 100000 in
theorem ok42 : zOkM 42 = true := by decide +kernel
set_option maxRecDepth 100000 in
theorem ok43 : zOkM 43 = true := by decide +kernel
set_option maxRecDepth 100000 in
theorem ok44 : zOkM 44 = true := by decide +kernel
set_option maxRecDepth 100000 in
theorem ok45 : zOkM 45 = true := by decide +kernel
set_option maxRecDepth 100000 in
theorem ok46 : zOkM 46 = true := by decide +kernel
set_option maxRecDepth 100000 in
theorem ok47 : zOkM 47 = true := by decide +kernel
set_option maxRecDepth 100000 in
theorem ok48 : zOkM 48 = true := by decide +kernel
set_option maxRecDepth 100000 in
theorem ok49 : zOkM 49 = true := by decide +kernel
set_option maxRecDepth 100000 in
theorem ok50 : zOkM 50 = true := by decide +kernel
set_option maxRecDepth 100000 in
theorem ok51 : zOkM 51 = true := by decide +kernel
set_option maxRecDepth 100000 in
theorem ok52 : zOkM 52 = true := by decide +kernel
set_option maxRecDepth 100000 in
theorem ok53 : zOkM 53 = true := by decide +kernel
set_option maxRecDepth 100000 in
theorem ok54 : zOkM 54 = true := by decide +kernel
set_option maxRecDepth 100000 in
theorem ok55 : zOkM 55 = true := by decide +kernel
set_option maxRecDepth 100000 in
theorem ok56 : zOkM 56 = true := by decide +kernel
set_option maxRecDepth 100000 in
theorem ok57 : zOkM 57 = true := by decide +kernel
set_option maxRecDepth 100000 in
theorem ok58 : zOkM 58 = true := by decide +kernel
set_option maxRecDepth 100000 in
theorem ok59 : zOkM 59 = true := by decide +kernel
set_option maxRecDepth 100000 in
theorem ok60 : zOkM 60 = true := by decide +kernel
set_option maxRecDepth 100000 in
theorem ok61 : zOkM 61 = true := by decide +kernel
set_option maxRecDepth 100000 in
theorem ok62 : zOkM 62 = true := by decide +kernel
set_option maxRecDepth 100000 in
theorem ok63 : zOkM 63 = true := by decide +kernel
set_option maxRecDepth 100000 in
theorem ok64 : zOkM 64 = true := by decide +kernel
set_option maxRecDepth 100000 in
theorem ok65 : zOkM 65 = true := by decide +kernel
set_option maxRecDepth 100000 in
theorem ok66 : zOkM 66 = true := by decide +kernel
set_option maxRecDepth 100000 in
theorem ok67 : zOkM 67 = true := by decide +kernel
set_option maxRecDepth 100000 in
theorem ok68 : zOkM 68 = true := by decide +kernel
set_option maxRecDepth 100000 in
theorem ok69 : zOkM 69 = true := by decide +kernel
set_option maxRecDepth 100000 in
theorem ok70 : zOkM 70 = true := by decide +kernel
set_option maxRecDepth 100000 in
theorem ok71 : zOkM 71 = true := by decide +kernel
set_option maxRecDepth 100000 in
theorem ok72 : zOkM 72 = true := by decide +kernel
set_option maxRecDepth 100000 in
theorem ok73 : zOkM 73 = true := by decide +kernel
set_option maxRecDepth 100000 in
theorem ok74 : zOkM 74 = true := by decide +kernel
set_option maxRecDepth 100000 in
theorem ok75 : zOkM 75 = true := by decide +kernel
set_option maxRecDepth 100000 in
theorem ok76 : zOkM 76 = true := by decide +kernel
set_option maxRecDepth 100000 in
theorem ok77 : zOkM 77 = true := by decide +kernel
set_option maxRecDepth 100000 in
theorem ok78 : zOkM 78 = true := by decide +kernel
set_option maxRecDepth 100000 in
theorem ok79 : zOkM 79 = true := by decide +kernel
set_option maxRecDepth 100000 in
theorem ok80 : zOkM 80 = true := by decide +kernel
set_option maxRecDepth 100000 in
theorem ok81 : zOkM 81 = true := by decide +kernel
set_option maxRecDepth 100000 in
theorem ok82 : zOkM 82 = true := by decide +kernel
set_option maxRecDepth 100000 in
theorem ok83 : zOkM 83 = true := by decide +kernel
set_option maxRecDepth 100000 in
theorem ok84 : zOkM 84 = true := by decide +kernel
set_option maxRecDepth 100000 in
theorem ok85 : zOkM 85 = true := by decide +kernel
set_option maxRecDepth 100000 in
theorem ok86 : zOkM 86 = true := by decide +kernel
set_option maxRecDepth 100000 in
theorem ok87 : zOkM 87 = true := by decide +kernel
set_option maxRecDepth 100000 in
theorem ok88 : zOkM 88 = true := by decide +kernel
set_option maxRecDepth 100000 in
theorem ok89 : zOkM 89 = true := by decide +kernel
set_option maxRecDepth 100000 in
theorem ok90 : zOkM 90 = true := by decide +kernel
set_option maxRecDepth 100000 in
theorem ok91 : zOkM 91 = true := by decide +kernel
set_option maxRecDepth 100000 in
theorem ok92 : zOkM 92 = true := by decide +kernel
set_option maxRecDepth 100000 in
theorem ok93 : zOkM 93 = true := by decide +kernel
set_option maxRecDepth 100000 in
theorem ok94 : zOkM 94 = true := by decide +kernel
set_option maxRecDepth 100000 in
theorem ok95 : zOkM 95 = true := by decide +kernel
set_option maxRecDepth 100000 in
theorem ok96 : zOkM 96 = true := by decide +kernel
set_option maxRecDepth 100000 in
theorem ok97 : zOkM 97 = true := by decide +kernel
set_option maxRecDepth 100000 in
theorem ok98 : zOkM 98 = true := by decide +kernel
set_option maxRecDepth 100000 in
theorem ok99 : zOkM 99 = true := by decide +kernel
set_option maxRecDepth 100000 in
theorem ok100 : zOkM 100 = true := by decide +kernel
set_option maxRecDepth 100000 in
theorem ok101 : zOkM 101 = true := by decide +kernel
set_option maxRecDepth 100000 in
theorem ok102 : zOkM 102 = true := by decide +kernel
set_option maxRecDepth 100000 in
theorem ok103 : zOkM 103 = true := by decide +kernel
set_option maxRecDepth 100000 in
theorem ok104 : zOkM 104 = true := by decide +kernel
set_option maxRecDepth 100000 in
theorem ok105 : zOkM 105 = true := by decide +kernel
set_option maxRecDepth 100000 in
theorem ok106 : zOkM 106 = true := by decide +kernel
set_option maxRecDepth 100000 in
theorem ok107 : zOkM 107 = true := by decide +kernel
set_option maxRecDepth 100000 in
theorem ok108 : zOkM 108 = true := by decide +kernel
set_option maxRecDepth 100000 in
theorem ok109 : zOkM 109 = true := by decide +kernel
set_option maxRecDepth 100000 in
theorem ok110 : zOkM 110 = true := by decide +kernel
set_option maxRecDepth 100000 in
theorem ok111 : zOkM 111 = true := by decide +kernel
set_option maxRecDepth 100000 in
theorem ok112 : zOkM 112 = true := by decide +kernel
set_option maxRecDepth 100000 in
theorem ok113 : zOkM 113 = true := by decide +kernel
set_option maxRecDepth 100000 in
theorem ok114 : zOkM 114 = true := by decide +kernel
set_option maxRecDepth 100000 in
theorem ok115 : zOkM 115 = true := by decide +kernel
set_option maxRecDepth 100000 in
theorem ok116 : zOkM 116 = true := by decide +kernel
set_option maxRecDepth 100000 in
theorem ok117 : zOkM 117 = true := by decide +kernel
set_option maxRecDepth 100000 in
theorem ok118 : zOkM 118 = true := by decide +kernel
set_option maxRecDepth 100000 in
theorem ok119 : zOkM 119 = true := by decide +kernel
set_option maxRecDepth 100000 in
theorem ok120 : zOkM 120 = true := by decide +kernel
set_option maxRecDepth 100000 in
theorem ok121 : zOkM 121 = true := by decide +kernel
set_option maxRecDepth 100000 in
theorem ok122 : zOkM 122 = true := by decide +kernel
set_option maxRecDepth 100000 in
theorem ok123 : zOkM 123 = true := by decide +kernel
set_option maxRecDepth 100000 in
theorem ok124 : zOkM 124 = true := by decide +kernel
set_option maxRecDepth 100000 in
theorem ok125 : zOkM 125 = true := by decide +kernel
set_option maxRecDepth 100000 in
theorem ok126 : zOkM 126 = true := by decide +kernel
set_option maxRecDepth 100000 in
theorem ok127 : zOkM 127 = true := by decide +kernel
set_option maxRecDepth 100000 in
theorem ok128 : zOkM 128 = true := by decide +kernel
set_option maxRecDepth 100000 in
theorem ok129 : zOkM 129 = true := by decide +kernel
set_option maxRecDepth 100000 in
theorem ok130 : zOkM 130 = true := by decide +kernel
set_option maxRecDepth 100000 in
theorem ok131 : zOkM 131 = true := by decide +kernel
set_option maxRecDepth 100000 in
theorem ok132 : zOkM 132 = true := by decide +kernel
set_option maxRecDepth 100000 in
theorem ok133 : zOkM 133 = true := by decide +kernel
set_option maxRecDepth 100000 in
theorem ok134 : zOkM 134 = true := by decide +kernel
set_option maxRecDepth 100000 in
theorem ok135 : zOkM 135 = true := by decide +kernel
set_option maxRecDepth 100000 in
theorem ok136 : zOkM 136 = true := by decide +kernel
set_option maxRecDepth 100000 in
theorem ok137 : zOkM 137 = true := by decide +kernel
set_option maxRecDepth 100000 in
theorem ok138 : zOkM 138 = true := by decide +kernel
set_option maxRecDepth 100000 in
theorem ok139 : zOkM 139 = true := by decide +kernel
set_option maxRecDepth 100000 in
theorem ok140 : zOkM 140 = true := by decide +kernel
set_option maxRecDepth 100000 in
theorem ok141 : zOkM 141 = true := by decide +kernel
set_option maxRecDepth 100000 in
theorem ok142 : zOkM 142 = true := by decide +kernel
set_option maxRecDepth 100000 in
theorem ok143 : zOkM 143 = true := by decide +kernel
set_option maxRecDepth 100000 in
theorem ok144 : zOkM 144 = true := by decide +kernel
set_option maxRecDepth 100000 in
theorem ok145 : zOkM 145 = true := by decide +kernel
set_option maxRecDepth 100000 in
theorem ok146 : zOkM 146 = true := by decide +kernel
set_option maxRecDepth 100000 in
theorem ok147 : zOkM 147 = true := by decide +kernel
set_option maxRecDepth 100000 in
theorem ok148 : zOkM 148 = true := by decide +kernel
set_option maxRecDepth 100000 in
theorem ok149 : zOkM 149 = true := by decide +kernel
set_option maxRecDepth 100000 in
theorem ok150 : zOkM 150 = true := by decide +kernel
set_option maxRecDepth 100000 in
theorem ok151 : zOkM 151 = true := by decide +kernel
set_option maxRecDepth 100000 in
theorem ok152 : zOkM 152 = true := by decide +kernel
set_option maxRecDepth 100000 in
theorem ok153 : zOkM 153 = true := by decide +kernel
set_option maxRecDepth 100000 in
theorem ok154 : zOkM 154 = true := by decide +kernel
set_option maxRecDepth 100000 in
theorem ok155 : zOkM 155 = true := by decide +kernel
set_option maxRecDepth 100000 in
theorem ok156 : zOkM 156 = true := by decide +kernel
set_option maxRecDepth 100000 in
theorem ok157 : zOkM 157 = true := by decide +kernel
set_option maxRecDepth 100000 in
theorem ok158 : zOkM 158 = true := by decide +kernel
set_option maxRecDepth 100000 in
theorem ok159 : zOkM 159 = true := by decide +kernel
set_option maxRecDepth 100000 in
theorem ok160 : zOkM 160 = true := by decide +kernel
set_option maxRecDepth 100000 in
theorem ok161 : zOkM 161 = true := by decide +kernel
set_option maxRecDepth 100000 in
theorem ok162 : zOkM 162 = true := by decide +kernel
set_option maxRecDepth 100000 in
theorem ok163 : zOkM 163 = true := by decide +kernel
set_option maxRecDepth 100000 in
theorem ok164 : zOkM 164 = true := by decide +kernel
set_option maxRecDepth 100000 in
theorem ok165 : zOkM 165 = true := by decide +kernel
set_option maxRecDepth 100000 in
theorem ok166 : zOkM 166 = true := by decide +kernel
set_option maxRecDepth 100000 in
theorem ok167 : zOkM 167 = true := by decide +kernel
set_option maxRecDepth 100000 in
theorem ok168 : zOkM 168 = true := by decide +kernel
set_option maxRecDepth 100000 in
theorem ok169 : zOkM 169 = true := by decide +kernel
set_option maxRecDepth 100000 in
theorem ok170 : zOkM 170 = true := by decide +kernel
set_option maxRecDepth 100000 in
theorem ok171 : zOkM 171 = true := by decide +kernel
set_option maxRecDepth 100000 in
theorem ok172 : zOkM 172 = true := by decide +kernel
set_option maxRecDepth 100000 in
theorem ok173 : zOkM 173 = true := by decide +kernel
set_option maxRecDepth 100000 in
theorem ok174 : zOkM 174 = true := by decide +kernel
set_option maxRecDepth 100000 in
theorem ok175 : zOkM 175 = true := by decide +kernel
set_option maxRecDepth 100000 in
theorem ok176 : zOkM 176 = true := by decide +kernel
set_option maxRecDepth 100000 in
theorem ok177 : zOkM 177 = true := by decide +kernel
set_option maxRecDepth 100000 in
theorem ok178 : zOkM 178 = true := by decide +kernel
set_option maxRecDepth 100000 in
theorem ok179 : zOkM 179 = true := by decide +kernel
set_option maxRecDepth 100000 in
theorem ok180 : zOkM 180 = true := by decide +kernel
set_option maxRecDepth 100000 in
theorem ok181 : zOkM 181 = true := by decide +kernel
set_option maxRecDepth 100000 in
theorem ok182 : zOkM 182 = true := by decide +kernel
set_option maxRecDepth 100000 in
theorem ok183 : zOkM 183 = true := by decide +kernel
set_option maxRecDepth 100000 in
theorem ok184 : zOkM 184 = true := by decide +kernel
set_option maxRecDepth 100000 in
theorem ok185 : zOkM 185 = true := by decide +kernel
set_option maxRecDepth 100000 in
theorem ok186 : zOkM 186 = true := by decide +kernel
set_option maxRecDepth 100000 in
theorem ok187 : zOkM 187 = true := by decide +kernel
set_option maxRecDepth 100000 in
theorem ok188 : zOkM 188 = true := by decide +kernel
set_option maxRecDepth 100000 in
theorem ok189 : zOkM 189 = true := by decide +kernel
set_option maxRecDepth 100000 in
theorem ok190 : zOkM 190 = true := by decide +kernel
set_option maxRecDepth 100000 in
theorem ok191 : zOkM 191 = true := by decide +kernel
set_option maxRecDepth 100000 in
theorem ok192 : zOkM 192 = true := by decide +kernel
set_option maxRecDepth 100000 in
theorem ok193 : zOkM 193 = true := by decide +kernel
set_option maxRecDepth 100000 in
theorem ok194 : zOkM 194 = true := by decide +kernel
set_option maxRecDepth 100000 in
theorem ok195 : zOkM 195 = true := by decide +kernel
set_option maxRecDepth 100000 in
theorem ok196 : zOkM 196 = true := by decide +kernel
set_option maxRecDepth 100000 in
theorem ok197 : zOkM 197 = true := by decide +kernel
set_option maxRecDepth 100000 in
theorem ok198 : zOkM 198 = true := by decide +kernel
set_option maxRecDepth 100000 in
theorem ok199 : zOkM 199 = true := by decide +kernel
set_option maxRecDepth 100000 in
theorem ok200 : zOkM 200 = true := by decide +kernel
set_option maxRecDepth 100000 in
theorem ok201 : zOkM 201 = true := by decide +kernel
set_option maxRecDepth 100000 in
theorem ok202 : zOkM 202 = true := by decide +kernel
set_option maxRecDepth 100000 in
theorem ok203 : zOkM 203 = true := by decide +kernel
set_option maxRecDepth 100000 in
theorem ok204 : zOkM 204 = true := by decide +kernel
set_option maxRecDepth 100000 in
theorem ok205 : zOkM 205 = true := by decide +kernel
set_option maxRecDepth 100000 in
theorem ok206 : zOkM 206 = true := by decide +kernel
set_option maxRecDepth 100000 in
theorem ok207 : zOkM 207 = true := by decide +kernel
set_option maxRecDepth 100000 in
theorem ok208 : zOkM 208 = true := by decide +kernel
set_option maxRecDepth 100000 in
theorem ok209 : zOkM 209 = true := by decide +kernel
set_option maxRecDepth 100000 in
theorem ok210 : zOkM 210 = true := by decide +kernel
set_option maxRecDepth 100000 in
theorem ok211 : zOkM 211 = true := by decide +kernel
set_option maxRecDepth 100000 in
theorem ok212 : zOkM 212 = true := by decide +kernel
set_option maxRecDepth 100000 in
theorem ok213 : zOkM 213 = true := by decide +kernel
set_option maxRecDepth 100000 in
theorem ok214 : zOkM 214 = true := by decide +kernel
set_option maxRecDepth 100000 in
theorem ok215 : zOkM 215 = true := by decide +kernel
set_option maxRecDepth 100000 in
theorem ok216 : zOkM 216 = true := by decide +kernel
set_option maxRecDepth 100000 in
theorem ok217 : zOkM 217 = true := by decide +kernel
set_option maxRecDepth 100000 in
theorem ok218 : zOkM 218 = true := by decide +kernel
set_option maxRecDepth 100000 in
theorem ok219 : zOkM 219 = true := by decide +kernel
set_option maxRecDepth 100000 in
theorem ok220 : zOkM 220 = true := by decide +kernel
set_option maxRecDepth 100000 in
theorem ok221 : zOkM 221 = true := by decide +kernel
set_option maxRecDepth 100000 in
theorem ok222 : zOkM 222 = true := by decide +kernel
set_option maxRecDepth 100000 in
theorem ok223 : zOkM 223 = true := by decide +kernel
set_option maxRecDepth 100000 in
theorem ok224 : zOkM 224 = true := by decide +kernel
set_option maxRecDepth 100000 in
theorem ok225 : zOkM 225 = true := by decide +kernel
set_option maxRecDepth 100000 in
theorem ok226 : zOkM 226 = true := by decide +kernel
set_option maxRecDepth 100000 in
theorem ok227 : zOkM 227 = true := by decide +kernel
set_option maxRecDepth 100000 in
theorem ok228 : zOkM 228 = true := by decide +kernel
set_option maxRecDepth 100000 in
theorem ok229 : zOkM 229 = true := by decide +kernel
set_option maxRecDepth 100000 in
theorem ok230 : zOkM 230 = true := by decide +kernel
set_option maxRecDepth 100000 in
theorem ok231 : zOkM 231 = true := by decide +kernel
set_option maxRecDepth 100000 in
theorem ok232 : zOkM 232 = true := by decide +kernel
set_option maxRecDepth 100000 in
theorem ok233 : zOkM 233 = true := by decide +kernel
set_option maxRecDepth 100000 in
theorem ok234 : zOkM 234 = true := by decide +kernel
set_option maxRecDepth 100000 in
theorem ok235 : zOkM 235 = true := by decide +kernel
set_option maxRecDepth 100000 in
theorem ok236 : zOkM 236 = true := by decide +kernel
set_option maxRecDepth 100000 in
theorem ok237 : zOkM 237 = true := by decide +kernel
set_option maxRecDepth 100000 in
theorem ok238 : zOkM 238 = true := by decide +kernel
set_option maxRecDepth 100000 in
theorem ok239 : zOkM 239 = true := by decide +kernel
set_option maxRecDepth 100000 in
theorem ok240 : zOkM 240 = true := by decide +kernel
set_option maxRecDepth 100000 in
theorem ok241 : zOkM 241 = true := by decide +kernel
set_option maxRecDepth 100000 in
theorem ok242 : zOkM 242 = true := by decide +kernel
set_option maxRecDepth 100000 in
theorem ok243 : zOkM 243 = true := by decide +kernel
set_option maxRecDepth 100000 in
theorem ok244 : zOkM 244 = true := by decide +kernel
set_option maxRecDepth 100000 in
theorem ok245 : zOkM 245 = true := by decide +kernel
set_option maxRecDepth 100000 in
theorem ok246 : zOkM 246 = true := by decide +kernel
set_option maxRecDepth 100000 in
theorem ok247 : zOkM 247 = true := by decide +kernel
set_option maxRecDepth 100000 in
theorem ok248 : zOkM 248 = true := by decide +kernel
set_option maxRecDepth 100000 in
theorem ok249 : zOkM 249 = true := by decide +kernel
set_option maxRecDepth 100000 in
theorem ok250 : zOkM 250 = true := by decide +kernel
set_option maxRecDepth 100000 in
theorem ok251 : zOkM 251 = true := by decide +kernel
set_option maxRecDepth 100000 in
theorem ok252 : zOkM 252 = true := by decide +kernel
set_option maxRecDepth 100000 in
theorem ok253 : zOkM 253 = true := by decide +kernel
set_option maxRecDepth 100000 in
theorem ok254 : zOkM 254 = true := by decide +kernel
set_option maxRecDepth 100000 in
theorem ok255 : zOkM 255 = true := by decide +kernel
set_option maxRecDepth 100000 in
theorem ok256 : zOkM 256 = true := by decide +kernel
set_option maxRecDepth 100000 in
theorem ok257 : zOkM 257 = true := by decide +kernel
set_option maxRecDepth 100000 in
theorem ok258 : zOkM 258 = true := by decide +kernel
set_option maxRecDepth 100000 in
theorem ok259 : zOkM 259 = true := by decide +kernel
set_option maxRecDepth 100000 in
theorem ok260 : zOkM 260 = true := by decide +kernel
set_option maxRecDepth 100000 in
theorem ok261 : zOkM 261 = true := by decide +kernel
set_option maxRecDepth 100000 in
theorem ok262 : zOkM 262 = true := by decide +kernel
set_option maxRecDepth 100000 in
theorem ok263 : zOkM 263 = true := by decide +kernel
set_option maxRecDepth 100000 in
theorem ok264 : zOkM 264 = true := by decide +kernel
set_option maxRecDepth 100000 in
theorem ok265 : zOkM 265 = true := by decide +kernel
set_option maxRecDepth 100000 in
theorem ok266 : zOkM 266 = true := by decide +kernel
set_option maxRecDepth 100000 in
theorem ok267 : zOkM 267 = true := by decide +kernel
set_option maxRecDepth 100000 in
theorem ok268 : zOkM 268 = true := by decide +kernel
set_option maxRecDepth 100000 in
theorem ok269 : zOkM 269 = true := by decide +kernel
set_option maxRecDepth 100000 in
theorem ok270 : zOkM 270 = true := by decide +kernel
set_option maxRecDepth 100000 in
theorem ok271 : zOkM 271 = true := by decide +kernel
set_option maxRecDepth 100000 in
theorem ok272 : zOkM 272 = true := by decide +kernel
set_option maxRecDepth 100000 in
theorem ok273 : zOkM 273 = true := by decide +kernel
set_option maxRecDepth 100000 in
theorem ok274 : zOkM 274 = true := by decide +kernel
set_option maxRecDepth 100000 in
theorem ok275 : zOkM 275 = true := by decide +kernel
set_option maxRecDepth 100000 in
theorem ok276 : zOkM 276 = true := by decide +kernel
set_option maxRecDepth 100000 in
theorem ok277 : zOkM 277 = true := by decide +kernel
set_option maxRecDepth 100000 in
theorem ok278 : zOkM 278 = true := by decide +kernel
set_option maxRecDepth 100000 in
theorem ok279 : zOkM 279 = true := by decide +kernel
set_option maxRecDepth 100000 in
theorem ok280 : zOkM 280 = true := by decide +kernel
set_option maxRecDepth 100000 in
theorem ok281 : zOkM 281 = true := by decide +kernel
set_option maxRecDepth 100000 in
theorem ok282 : zOkM 282 = true := by decide +kernel
set_option maxRecDepth 100000 in
theorem ok283 : zOkM 283 = true := by decide +kernel
set_option maxRecDepth 100000 in
theorem ok284 : zOkM 284 = true := by decide +kernel
set_option maxRecDepth 100000 in
theorem ok285 : zOkM 285 = true := by decide +kernel
set_option maxRecDepth 100000 in
theorem ok286 : zOkM 286 = true := by decide +kernel
set_option maxRecDepth 100000 in
theorem ok287 : zOkM 287 = true := by decide +kernel
set_option maxRecDepth 100000 in
theorem ok288 : zOkM 288 = true := by decide +kernel
set_option maxRecDepth 100000 in
theorem ok289 : zOkM 289 = true := by decide +kernel
set_option maxRecDepth 100000 in
theorem ok290 : zOkM 290 = true := by decide +kernel
set_option maxRecDepth 100000 in
theorem ok291 : zOkM 291 = true := by decide +kernel
set_option maxRecDepth 100000 in
theorem ok_all (m : Nat) (h : m < 292) : zOkM m = true := (if q146 : m < 146 then (if q73 : m < 73 then (if q36 : m < 36 then (if q18 : m < 18 then (if q9 : m < 9 then (if q4 : m < 4 then (if q2 : m < 2 then (if q1 : m < 1 then (have q : m = 0 := by omega
  q ▸ ok0) else (have q : m = 1 := by omega
  q ▸ ok1)) else (if q3 : m < 3 then (have q : m = 2 := by omega
  q ▸ ok2) else (have q : m = 3 := by omega
  q ▸ ok3))) else (if q6 : m < 6 then (if q5 : m < 5 then (have q : m = 4 := by omega
  q ▸ ok4) else (have q : m = 5 := by omega
  q ▸ ok5)) else (if q7 : m < 7 then (have q : m = 6 := by omega
  q ▸ ok6) else (if q8 : m < 8 then (have q : m = 7 := by omega
  q ▸ ok7) else (have q : m = 8 := by omega
  q ▸ ok8))))) else (if q13 : m < 13 then (if q11 : m < 11 then (if q10 : m < 10 then (have q : m = 9 := by omega
  q ▸ ok9) else (have q : m = 10 := by omega
  q ▸ ok10)) else (if q12 : m < 12 then (have q : m = 11 := by omega
  q ▸ ok11) else (have q : m = 12 := by omega
  q ▸ ok12))) else (if q15 : m < 15 then (if q14 : m < 14 then (have q : m = 13 := by omega
  q ▸ ok13) else (have q : m = 14 := by omega
  q ▸ ok14)) else (if q16 : m < 16 then (have q : m = 15 := by omega
  q ▸ ok15) else (if q17 : m < 17 then (have q : m = 16 := by omega
  q ▸ ok16) else (have q : m = 17 := by omega
  q ▸ ok17)))))) else (if q27 : m < 27 then (if q22 : m < 22 then (if q20 : m < 20 then (if q19 : m < 19 then (have q : m = 18 := by omega
  q ▸ ok18) else (have q : m = 19 := by omega
  q ▸ ok19)) else (if q21 : m < 21 then (have q : m = 20 := by omega
  q ▸ ok20) else (have q : m = 21 := by omega
  q ▸ ok21))) else (if q24 : m < 24 then (if q23 : m < 23 then (have q : m = 22 := by omega
  q ▸ ok22) else (have q : m = 23 := by omega
  q ▸ ok23)) else (if q25 : m < 25 then (have q : m = 24 := by omega
  q ▸ ok24) else (if q26 : m < 26 then (have q : m = 25 := by omega
  q ▸ ok25) else (have q : m = 26 := by omega
  q ▸ ok26))))) else (if q31 : m < 31 then (if q29 : m < 29 then (if q28 : m < 28 then (have q : m = 27 := by omega
  q ▸ ok27) else (have q : m = 28 := by omega
  q ▸ ok28)) else (if q30 : m < 30 then (have q : m = 29 := by omega
  q ▸ ok29) else (have q : m = 30 := by omega
  q ▸ ok30))) else (if q33 : m < 33 then (if q32 : m < 32 then (have q : m = 31 := by omega
  q ▸ ok31) else (have q : m = 32 := by omega
  q ▸ ok32)) else (if q34 : m < 34 then (have q : m = 33 := by omega
  q ▸ ok33) else (if q35 : m < 35 then (have q : m = 34 := by omega
  q ▸ ok34) else (have q : m = 35 := by omega
  q ▸ ok35))))))) else (if q54 : m < 54 then (if q45 : m < 45 then (if q40 : m < 40 then (if q38 : m < 38 then (if q37 : m < 37 then (have q : m = 36 := by omega
  q ▸ ok36) else (have q : m = 37 := by omega
  q ▸ ok37)) else (if q39 : m < 39 then (have q : m = 38 := by omega
  q ▸ ok38) else (have q : m = 39 := by omega
  q ▸ ok39))) else (if q42 : m < 42 then (if q41 : m < 41 then (have q : m = 40 := by omega
  q ▸ ok40) else (have q : m = 41 := by omega
  q ▸ ok41)) else (if q43 : m < 43 then (have q : m = 42 := by omega
  q ▸ ok42) else (if q44 : m < 44 then (have q : m = 43 := by omega
  q ▸ ok43) else (have q : m = 44 := by omega
  q ▸ ok44))))) else (if q49 : m < 49 then (if q47 : m < 47 then (if q46 : m < 46 then (have q : m = 45 := by omega
  q ▸ ok45) else (have q : m = 46 := by omega
  q ▸ ok46)) else (if q48 : m < 48 then (have q : m = 47 := by omega
  q ▸ ok47) else (have q : m = 48 := by omega
  q ▸ ok48))) else (if q51 : m < 51 then (if q50 : m < 50 then (have q : m = 49 := by omega
  q ▸ ok49) else (have q : m = 50 := by omega
  q ▸ ok50)) else (if q52 : m < 52 then (have q : m = 51 := by omega
  q ▸ ok51) else (if q53 : m < 53 then (have q : m = 52 := by omega
  q ▸ ok52) else (have q : m = 53 := by omega
  q ▸ ok53)))))) else (if q63 : m < 63 then (if q58 : m < 58 then (if q56 : m < 56 then (if q55 : m < 55 then (have q : m = 54 := by omega
  q ▸ ok54) else (have q : m = 55 := by omega
  q ▸ ok55)) else (if q57 : m < 57 then (have q : m = 56 := by omega
  q ▸ ok56) else (have q : m = 57 := by omega
  q ▸ ok57))) else (if q60 : m < 60 then (if q59 : m < 59 then (have q : m = 58 := by omega
  q ▸ ok58) else (have q : m = 59 := by omega
  q ▸ ok59)) else (if q61 : m < 61 then (have q : m = 60 := by omega
  q ▸ ok60) else (if q62 : m < 62 then (have q : m = 61 := by omega
  q ▸ ok61) else (have q : m = 62 := by omega
  q ▸ ok62))))) else (if q68 : m < 68 then (if q65 : m < 65 then (if q64 : m < 64 then (have q : m = 63 := by omega
  q ▸ ok63) else (have q : m = 64 := by omega
  q ▸ ok64)) else (if q66 : m < 66 then (have q : m = 65 := by omega
  q ▸ ok65) else (if q67 : m < 67 then (have q : m = 66 := by omega
  q ▸ ok66) else (have q : m = 67 := by omega
  q ▸ ok67)))) else (if q70 : m < 70 then (if q69 : m < 69 then (have q : m = 68 := by omega
  q ▸ ok68) else (have q : m = 69 := by omega
  q ▸ ok69)) else (if q71 : m < 71 then (have q : m = 70 := by omega
  q ▸ ok70) else (if q72 : m < 72 then (have q : m = 71 := by omega
  q ▸ ok71) else (have q : m = 72 := by omega
  q ▸ ok72)))))))) else (if q109 : m < 109 then (if q91 : m < 91 then (if q82 : m < 82 then (if q77 : m < 77 then (if q75 : m < 75 then (if q74 : m < 74 then (have q : m = 73 := by omega
  q ▸ ok73) else (have q : m = 74 := by omega
  q ▸ ok74)) else (if q76 : m < 76 then (have q : m = 75 := by omega
  q ▸ ok75) else (have q : m = 76 := by omega
  q ▸ ok76))) else (if q79 : m < 79 then (if q78 : m < 78 then (have q : m = 77 := by omega
  q ▸ ok77) else (have q : m = 78 := by omega
  q ▸ ok78)) else (if q80 : m < 80 then (have q : m = 79 := by omega
  q ▸ ok79) else (if q81 : m < 81 then (have q : m = 80 := by omega
  q ▸ ok80) else (have q : m = 81 := by omega
  q ▸ ok81))))) else (if q86 : m < 86 then (if q84 : m < 84 then (if q83 : m < 83 then (have q : m = 82 := by omega
  q ▸ ok82) else (have q : m = 83 := by omega
  q ▸ ok83)) else (if q85 : m < 85 then (have q : m = 84 := by omega
  q ▸ ok84) else (have q : m = 85 := by omega
  q ▸ ok85))) else (if q88 : m < 88 then (if q87 : m < 87 then (have q : m = 86 := by omega
  q ▸ ok86) else (have q : m = 87 := by omega
  q ▸ ok87)) else (if q89 : m < 89 then (have q : m = 88 := by omega
  q ▸ ok88) else (if q90 : m < 90 then (have q : m = 89 := by omega
  q ▸ ok89) else (have q : m = 90 := by omega
  q ▸ ok90)))))) else (if q100 : m < 100 then (if q95 : m < 95 then (if q93 : m < 93 then (if q92 : m < 92 then (have q : m = 91 := by omega
  q ▸ ok91) else (have q : m = 92 := by omega
  q ▸ ok92)) else (if q94 : m < 94 then (have q : m = 93 := by omega
  q ▸ ok93) else (have q : m = 94 := by omega
  q ▸ ok94))) else (if q97 : m < 97 then (if q96 : m < 96 then (have q : m = 95 := by omega
  q ▸ ok95) else (have q : m = 96 := by omega
  q ▸ ok96)) else (if q98 : m < 98 then (have q : m = 97 := by omega
  q ▸ ok97) else (if q99 : m < 99 then (have q : m = 98 := by omega
  q ▸ ok98) else (have q : m = 99 := by omega
  q ▸ ok99))))) else (if q104 : m < 104 then (if q102 : m < 102 then (if q101 : m < 101 then (have q : m = 100 := by omega
  q ▸ ok100) else (have q : m = 101 := by omega
  q ▸ ok101)) else (if q103 : m < 103 then (have q : m = 102 := by omega
  q ▸ ok102) else (have q : m = 103 := by omega
  q ▸ ok103))) else (if q106 : m < 106 then (if q105 : m < 105 then (have q : m = 104 := by omega
  q ▸ ok104) else (have q : m = 105 := by omega
  q ▸ ok105)) else (if q107 : m < 107 then (have q : m = 106 := by omega
  q ▸ ok106) else (if q108 : m < 108 then (have q : m = 107 := by omega
  q ▸ ok107) else (have q : m = 108 := by omega
  q ▸ ok108))))))) else (if q127 : m < 127 then (if q118 : m < 118 then (if q113 : m < 113 then (if q111 : m < 111 then (if q110 : m < 110 then (have q : m = 109 := by omega
  q ▸ ok109) else (have q : m = 110 := by omega
  q ▸ ok110)) else (if q112 : m < 112 then (have q : m = 111 := by omega
  q ▸ ok111) else (have q : m = 112 := by omega
  q ▸ ok112))) else (if q115 : m < 115 then (if q114 : m < 114 then (have q : m = 113 := by omega
  q ▸ ok113) else (have q : m = 114 := by omega
  q ▸ ok114)) else (if q116 : m < 116 then (have q : m = 115 := by omega
  q ▸ ok115) else (if q117 : m < 117 then (have q : m = 116 := by omega
  q ▸ ok116) else (have q : m = 117 := by omega
  q ▸ ok117))))) else (if q122 : m < 122 then (if q120 : m < 120 then (if q119 : m < 119 then (have q : m = 118 := by omega
  q ▸ ok118) else (have q : m = 119 := by omega
  q ▸ ok119)) else (if q121 : m < 121 then (have q : m = 120 := by omega
  q ▸ ok120) else (have q : m = 121 := by omega
  q ▸ ok121))) else (if q124 : m < 124 then (if q123 : m < 123 then (have q : m = 122 := by omega
  q ▸ ok122) else (have q : m = 123 := by omega
  q ▸ ok123)) else (if q125 : m < 125 then (have q : m = 124 := by omega
  q ▸ ok124) else (if q126 : m < 126 then (have q : m = 125 := by omega
  q ▸ ok125) else (have q : m = 126 := by omega
  q ▸ ok126)))))) else (if q136 : m < 136 then (if q131 : m < 131 then (if q129 : m < 129 then (if q128 : m < 128 then (have q : m = 127 := by omega
  q ▸ ok127) else (have q : m = 128 := by omega
  q ▸ ok128)) else (if q130 : m < 130 then (have q : m = 129 := by omega
  q ▸ ok129) else (have q : m = 130 := by omega
  q ▸ ok130))) else (if q133 : m < 133 then (if q132 : m < 132 then (have q : m = 131 := by omega
  q ▸ ok131) else (have q : m = 132 := by omega
  q ▸ ok132)) else (if q134 : m < 134 then (have q : m = 133 := by omega
  q ▸ ok133) else (if q135 : m < 135 then (have q : m = 134 := by omega
  q ▸ ok134) else (have q : m = 135 := by omega
  q ▸ ok135))))) else (if q141 : m < 141 then (if q138 : m < 138 then (if q137 : m < 137 then (have q : m = 136 := by omega
  q ▸ ok136) else (have q : m = 137 := by omega
  q ▸ ok137)) else (if q139 : m < 139 then (have q : m = 138 := by omega
  q ▸ ok138) else (if q140 : m < 140 then (have q : m = 139 := by omega
  q ▸ ok139) else (have q : m = 140 := by omega
  q ▸ ok140)))) else (if q143 : m < 143 then (if q142 : m < 142 then (have q : m = 141 := by omega
  q ▸ ok141) else (have q : m = 142 := by omega
  q ▸ ok142)) else (if q144 : m < 144 then (have q : m = 143 := by omega
  q ▸ ok143) else (if q145 : m < 145 then (have q : m = 144 := by omega
  q ▸ ok144) else (have q : m = 145 := by omega
  q ▸ ok145))))))))) else (if q219 : m < 219 then (if q182 : m < 182 then (if q164 : m < 164 then (if q155 : m < 155 then (if q150 : m < 150 then (if q148 : m < 148 then (if q147 : m < 147 then (have q : m = 146 := by omega
  q ▸ ok146) else (have q : m = 147 := by omega
  q ▸ ok147)) else (if q149 : m < 149 then (have q : m = 148 := by omega
  q ▸ ok148) else (have q : m = 149 := by omega
  q ▸ ok149))) else (if q152 : m < 152 then (if q151 : m < 151 then (have q : m = 150 := by omega
  q ▸ ok150) else (have q : m = 151 := by omega
  q ▸ ok151)) else (if q153 : m < 153 then (have q : m = 152 := by omega
  q ▸ ok152) else (if q154 : m < 154 then (have q : m = 153 := by omega
  q ▸ ok153) else (have q : m = 154 := by omega
  q ▸ ok154))))) else (if q159 : m < 159 then (if q157 : m < 157 then (if q156 : m < 156 then (have q : m = 155 := by omega
  q ▸ ok155) else (have q : m = 156 := by omega
  q ▸ ok156)) else (if q158 : m < 158 then (have q : m = 157 := by omega
  q ▸ ok157) else (have q : m = 158 := by omega
  q ▸ ok158))) else (if q161 : m < 161 then (if q160 : m < 160 then (have q : m = 159 := by omega
  q ▸ ok159) else (have q : m = 160 := by omega
  q ▸ ok160)) else (if q162 : m < 162 then (have q : m = 161 := by omega
  q ▸ ok161) else (if q163 : m < 163 then (have q : m = 162 := by omega
  q ▸ ok162) else (have q : m = 163 := by omega
  q ▸ ok163)))))) else (if q173 : m < 173 then (if q168 : m < 168 then (if q166 : m < 166 then (if q165 : m < 165 then (have q : m = 164 := by omega
  q ▸ ok164) else (have q : m = 165 := by omega
  q ▸ ok165)) else (if q167 : m < 167 then (have q : m = 166 := by omega
  q ▸ ok166) else (have q : m = 167 := by omega
  q ▸ ok167))) else (if q170 : m < 170 then (if q169 : m < 169 then (have q : m = 168 := by omega
  q ▸ ok168) else (have q : m = 169 := by omega
  q ▸ ok169)) else (if q171 : m < 171 then (have q : m = 170 := by omega
  q ▸ ok170) else (if q172 : m < 172 then (have q : m = 171 := by omega
  q ▸ ok171) else (have q : m = 172 := by omega
  q ▸ ok172))))) else (if q177 : m < 177 then (if q175 : m < 175 then (if q174 : m < 174 then (have q : m = 173 := by omega
  q ▸ ok173) else (have q : m = 174 := by omega
  q ▸ ok174)) else (if q176 : m < 176 then (have q : m = 175 := by omega
  q ▸ ok175) else (have q : m = 176 := by omega
  q ▸ ok176))) else (if q179 : m < 179 then (if q178 : m < 178 then (have q : m = 177 := by omega
  q ▸ ok177) else (have q : m = 178 := by omega
  q ▸ ok178)) else (if q180 : m < 180 then (have q : m = 179 := by omega
  q ▸ ok179) else (if q181 : m < 181 then (have q : m = 180 := by omega
  q ▸ ok180) else (have q : m = 181 := by omega
  q ▸ ok181))))))) else (if q200 : m < 200 then (if q191 : m < 191 then (if q186 : m < 186 then (if q184 : m < 184 then (if q183 : m < 183 then (have q : m = 182 := by omega
  q ▸ ok182) else (have q : m = 183 := by omega
  q ▸ ok183)) else (if q185 : m < 185 then (have q : m = 184 := by omega
  q ▸ ok184) else (have q : m = 185 := by omega
  q ▸ ok185))) else (if q188 : m < 188 then (if q187 : m < 187 then (have q : m = 186 := by omega
  q ▸ ok186) else (have q : m = 187 := by omega
  q ▸ ok187)) else (if q189 : m < 189 then (have q : m = 188 := by omega
  q ▸ ok188) else (if q190 : m < 190 then (have q : m = 189 := by omega
  q ▸ ok189) else (have q : m = 190 := by omega
  q ▸ ok190))))) else (if q195 : m < 195 then (if q193 : m < 193 then (if q192 : m < 192 then (have q : m = 191 := by omega
  q ▸ ok191) else (have q : m = 192 := by omega
  q ▸ ok192)) else (if q194 : m < 194 then (have q : m = 193 := by omega
  q ▸ ok193) else (have q : m = 194 := by omega
  q ▸ ok194))) else (if q197 : m < 197 then (if q196 : m < 196 then (have q : m = 195 := by omega
  q ▸ ok195) else (have q : m = 196 := by omega
  q ▸ ok196)) else (if q198 : m < 198 then (have q : m = 197 := by omega
  q ▸ ok197) else (if q199 : m < 199 then (have q : m = 198 := by omega
  q ▸ ok198) else (have q : m = 199 := by omega
  q ▸ ok199)))))) else (if q209 : m < 209 then (if q204 : m < 204 then (if q202 : m < 202 then (if q201 : m < 201 then (have q : m = 200 := by omega
  q ▸ ok200) else (have q : m = 201 := by omega
  q ▸ ok201)) else (if q203 : m < 203 then (have q : m = 202 := by omega
  q ▸ ok202) else (have q : m = 203 := by omega
  q ▸ ok203))) else (if q206 : m < 206 then (if q205 : m < 205 then (have q : m = 204 := by omega
  q ▸ ok204) else (have q : m = 205 := by omega
  q ▸ ok205)) else (if q207 : m < 207 then (have q : m = 206 := by omega
  q ▸ ok206) else (if q208 : m < 208 then (have q : m = 207 := by omega
  q ▸ ok207) else (have q : m = 208 := by omega
  q ▸ ok208))))) else (if q214 : m < 214 then (if q211 : m < 211 then (if q210 : m < 210 then (have q : m = 209 := by omega
  q ▸ ok209) else (have q : m = 210 := by omega
  q ▸ ok210)) else (if q212 : m < 212 then (have q : m = 211 := by omega
  q ▸ ok211) else (if q213 : m < 213 then (have q : m = 212 := by omega
  q ▸ ok212) else (have q : m = 213 := by omega
  q ▸ ok213)))) else (if q216 : m < 216 then (if q215 : m < 215 then (have q : m = 214 := by omega
  q ▸ ok214) else (have q : m = 215 := by omega
  q ▸ ok215)) else (if q217 : m < 217 then (have q : m = 216 := by omega
  q ▸ ok216) else (if q218 : m < 218 then (have q : m = 217 := by omega
  q ▸ ok217) else (have q : m = 218 := by omega
  q ▸ ok218)))))))) else (if q255 : m < 255 then (if q237 : m < 237 then (if q228 : m < 228 then (if q223 : m < 223 then (if q221 : m < 221 then (if q220 : m < 220 then (have q : m = 219 := by omega
  q ▸ ok219) else (have q : m = 220 := by omega
  q ▸ ok220)) else (if q222 : m < 222 then (have q : m = 221 := by omega
  q ▸ ok221) else (have q : m = 222 := by omega
  q ▸ ok222))) else (if q225 : m < 225 then (if q224 : m < 224 then (have q : m = 223 := by omega
  q ▸ ok223) else (have q : m = 224 := by omega
  q ▸ ok224)) else (if q226 : m < 226 then (have q : m = 225 := by omega
  q ▸ ok225) else (if q227 : m < 227 then (have q : m = 226 := by omega
  q ▸ ok226) else (have q : m = 227 := by omega
  q ▸ ok227))))) else (if q232 : m < 232 then (if q230 : m < 230 then (if q229 : m < 229 then (have q : m = 228 := by omega
  q ▸ ok228) else (have q : m = 229 := by omega
  q ▸ ok229)) else (if q231 : m < 231 then (have q : m = 230 := by omega
  q ▸ ok230) else (have q : m = 231 := by omega
  q ▸ ok231))) else (if q234 : m < 234 then (if q233 : m < 233 then (have q : m = 232 := by omega
  q ▸ ok232) else (have q : m = 233 := by omega
  q ▸ ok233)) else (if q235 : m < 235 then (have q : m = 234 := by omega
  q ▸ ok234) else (if q236 : m < 236 then (have q : m = 235 := by omega
  q ▸ ok235) else (have q : m = 236 := by omega
  q ▸ ok236)))))) else (if q246 : m < 246 then (if q241 : m < 241 then (if q239 : m < 239 then (if q238 : m < 238 then (have q : m = 237 := by omega
  q ▸ ok237) else (have q : m = 238 := by omega
  q ▸ ok238)) else (if q240 : m < 240 then (have q : m = 239 := by omega
  q ▸ ok239) else (have q : m = 240 := by omega
  q ▸ ok240))) else (if q243 : m < 243 then (if q242 : m < 242 then (have q : m = 241 := by omega
  q ▸ ok241) else (have q : m = 242 := by omega
  q ▸ ok242)) else (if q244 : m < 244 then (have q : m = 243 := by omega
  q ▸ ok243) else (if q245 : m < 245 then (have q : m = 244 := by omega
  q ▸ ok244) else (have q : m = 245 := by omega
  q ▸ ok245))))) else (if q250 : m < 250 then (if q248 : m < 248 then (if q247 : m < 247 then (have q : m = 246 := by omega
  q ▸ ok246) else (have q : m = 247 := by omega
  q ▸ ok247)) else (if q249 : m < 249 then (have q : m = 248 := by omega
  q ▸ ok248) else (have q : m = 249 := by omega
  q ▸ ok249))) else (if q252 : m < 252 then (if q251 : m < 251 then (have q : m = 250 := by omega
  q ▸ ok250) else (have q : m = 251 := by omega
  q ▸ ok251)) else (if q253 : m < 253 then (have q : m = 252 := by omega
  q ▸ ok252) else (if q254 : m < 254 then (have q : m = 253 := by omega
  q ▸ ok253) else (have q : m = 254 := by omega
  q ▸ ok254))))))) else (if q273 : m < 273 then (if q264 : m < 264 then (if q259 : m < 259 then (if q257 : m < 257 then (if q256 : m < 256 then (have q : m = 255 := by omega
  q ▸ ok255) else (have q : m = 256 := by omega
  q ▸ ok256)) else (if q258 : m < 258 then (have q : m = 257 := by omega
  q ▸ ok257) else (have q : m = 258 := by omega
  q ▸ ok258))) else (if q261 : m < 261 then (if q260 : m < 260 then (have q : m = 259 := by omega
  q ▸ ok259) else (have q : m = 260 := by omega
  q ▸ ok260)) else (if q262 : m < 262 then (have q : m = 261 := by omega
  q ▸ ok261) else (if q263 : m < 263 then (have q : m = 262 := by omega
  q ▸ ok262) else (have q : m = 263 := by omega
  q ▸ ok263))))) else (if q268 : m < 268 then (if q266 : m < 266 then (if q265 : m < 265 then (have q : m = 264 := by omega
  q ▸ ok264) else (have q : m = 265 := by omega
  q ▸ ok265)) else (if q267 : m < 267 then (have q : m = 266 := by omega
  q ▸ ok266) else (have q : m = 267 := by omega
  q ▸ ok267))) else (if q270 : m < 270 then (if q269 : m < 269 then (have q : m = 268 := by omega
  q ▸ ok268) else (have q : m = 269 := by omega
  q ▸ ok269)) else (if q271 : m < 271 then (have q : m = 270 := by omega
  q ▸ ok270) else (if q272 : m < 272 then (have q : m = 271 := by omega
  q ▸ ok271) else (have q : m = 272 := by omega
  q ▸ ok272)))))) else (if q282 : m < 282 then (if q277 : m < 277 then (if q275 : m < 275 then (if q274 : m < 274 then (have q : m = 273 := by omega
  q ▸ ok273) else (have q : m = 274 := by omega
  q ▸ ok274)) else (if q276 : m < 276 then (have q : m = 275 := by omega
  q ▸ ok275) else (have q : m = 276 := by omega
  q ▸ ok276))) else (if q279 : m < 279 then (if q278 : m < 278 then (have q : m = 277 := by omega
  q ▸ ok277) else (have q : m = 278 := by omega
  q ▸ ok278)) else (if q280 : m < 280 then (have q : m = 279 := by omega
  q ▸ ok279) else (if q281 : m < 281 then (have q : m = 280 := by omega
  q ▸ ok280) else (have q : m = 281 := by omega
  q ▸ ok281))))) else (if q287 : m < 287 then (if q284 : m < 284 then (if q283 : m < 283 then (have q : m = 282 := by omega
  q ▸ ok282) else (have q : m = 283 := by omega
  q ▸ ok283)) else (if q285 : m < 285 then (have q : m = 284 := by omega
  q ▸ ok284) else (if q286 : m < 286 then (have q : m = 285 := by omega
  q ▸ ok285) else (have q : m = 286 := by omega
  q ▸ ok286)))) else (if q289 : m < 289 then (if q288 : m < 288 then (have q : m = 287 := by omega
  q ▸ ok287) else (have q : m = 288 := by omega
  q ▸ ok288)) else (if q290 : m < 290 then (have q : m = 289 := by omega
  q ▸ ok289) else (if q291 : m < 291 then (have q : m = 290 := by omega
  q ▸ ok290) else (have q : m = 291 := by omega
  q ▸ ok291))))))))))
