/-! printed by a program of ours (wip/whole/lawgen.py) out of the code -/
def fL_law_23 (S : SC) : Nat → Nat → Nat → Nat → Int32 → AH → RR
  | 0, _, _, _, _, _ => none
  | k + 1, l1, l2, l3, l4, h =>
  if ((Int32.ofNat S.1) - 6) < l4 then (
    zbr 1 h)
  else
  (zsc S l4).bind fun x1 =>
  if (x1 &&& 31) = 0 then (
    (zsc S (l4 + 1)).bind fun x2 =>
    (zsc S (l4 + 2)).bind fun x3 =>
    (zsc S (l4 + 3)).bind fun x4 =>
    (zsc S (l4 + 4)).bind fun x5 =>
    (zsc S (l4 + 5)).bind fun x6 =>
    zcv (zob h l1 6) (fX6_feed l1 x2 x3 x4 x5 x6 h) fun v7 h8 =>
    zvi v7 fun x9 =>
    (zsc S (l4 + 1)).bind fun x10 =>
    (zsc S (l4 + 2)).bind fun x11 =>
    (zsc S (l4 + 3)).bind fun x12 =>
    (zsc S (l4 + 4)).bind fun x13 =>
    (zsc S (l4 + 5)).bind fun x14 =>
    zcv (zob h8 l2 7) (fX7_feed l2 x10 x11 x12 x13 x14 h8) fun v15 h16 =>
    zvi v15 fun x17 =>
    if x9 = x17 then (
      fL_law_23 S k l1 l2 l3 (l4 + 6) h16)
    else
    zbr 0 h16)
  else
  if (x1 &&& 31) = 1 then (
    (zsc S (l4 + 1)).bind fun x18 =>
    zca (fL_text l1 x18 l3 h) fun v19 h20 =>
    zvi v19 fun x21 =>
    (zsc S (l4 + 1)).bind fun x22 =>
    zcv (zob h20 l2 7) (fX7_text l2 x22 h20) fun v23 h24 =>
    zvi v23 fun x25 =>
    zcv (zob h24 l2 7) (fX7_thrown l2 h24) fun v26 h27 =>
    zvi v26 fun x28 =>
    if x28 = x21 then (
      if x21 = 0 then (
        (zal h27 l3 0).bind fun x29 =>
        if (lg_cmp x29 x25.toInt64) = 0 then (
          fL_law_23 S k l1 l2 l3 (l4 + 6) h27)
        else
        zbr 0 h27)
      else
      fL_law_23 S k l1 l2 l3 (l4 + 6) h27)
    else
    zbr 0 h27)
  else
  if (x1 &&& 31) = 2 then (
    zcv (zob h l1 6) (fX6_fault l1 h) fun v30 h31 =>
    zvi v30 fun x32 =>
    zcv (zob h31 l2 7) (fX7_fault l2 h31) fun v33 h34 =>
    zvi v33 fun x35 =>
    if x32 = x35 then (
      fL_law_23 S k l1 l2 l3 (l4 + 6) h34)
    else
    zbr 0 h34)
  else
  if (x1 &&& 31) = 3 then (
    (zsc S (l4 + 1)).bind fun x36 =>
    (zsc S (l4 + 2)).bind fun x37 =>
    (zsc S (l4 + 3)).bind fun x38 =>
    zca (fL_value l1 x36 x37 x38 l3 h) fun v39 h40 =>
    zvi v39 fun x41 =>
    (zsc S (l4 + 1)).bind fun x42 =>
    (zsc S (l4 + 2)).bind fun x43 =>
    (zsc S (l4 + 3)).bind fun x44 =>
    zcv (zob h40 l2 7) (fX7_value l2 x42 x43 x44 h40) fun v45 h46 =>
    zvi v45 fun x47 =>
    zcv (zob h46 l2 7) (fX7_thrown l2 h46) fun v48 h49 =>
    zvi v48 fun x50 =>
    if x50 = x41 then (
      if x41 = 0 then (
        (zal h49 l3 0).bind fun x51 =>
        if (lg_cmp x51 x47.toInt64) = 0 then (
          fL_law_23 S k l1 l2 l3 (l4 + 6) h49)
        else
        zbr 0 h49)
      else
      fL_law_23 S k l1 l2 l3 (l4 + 6) h49)
    else
    zbr 0 h49)
  else
  if (x1 &&& 31) = 4 then (
    (zsc S (l4 + 1)).bind fun x52 =>
    (zsc S (l4 + 2)).bind fun x53 =>
    zca (fL_after l1 x52 x53 l3 h) fun v54 h55 =>
    zvi v54 fun x56 =>
    (zsc S (l4 + 1)).bind fun x57 =>
    (zsc S (l4 + 2)).bind fun x58 =>
    zcv (zob h55 l2 7) (fX7_after l2 x57 x58 h55) fun v59 h60 =>
    zvi v59 fun x61 =>
    zcv (zob h60 l2 7) (fX7_thrown l2 h60) fun v62 h63 =>
    zvi v62 fun x64 =>
    if x64 = x56 then (
      if x56 = 0 then (
        (zal h63 l3 0).bind fun x65 =>
        if (lg_cmp x65 x61.toInt64) = 0 then (
          fL_law_23 S k l1 l2 l3 (l4 + 6) h63)
        else
        zbr 0 h63)
      else
      fL_law_23 S k l1 l2 l3 (l4 + 6) h63)
    else
    zbr 0 h63)
  else
  if (x1 &&& 31) = 5 then (
    (zsc S (l4 + 1)).bind fun x66 =>
    (zsc S (l4 + 2)).bind fun x67 =>
    zca (fL_again l1 x66 x67 l3 h) fun v68 h69 =>
    zvi v68 fun x70 =>
    (zsc S (l4 + 1)).bind fun x71 =>
    (zsc S (l4 + 2)).bind fun x72 =>
    zcv (zob h69 l2 7) (fX7_again l2 x71 x72 h69) fun v73 h74 =>
    zvi v73 fun x75 =>
    zcv (zob h74 l2 7) (fX7_thrown l2 h74) fun v76 h77 =>
    zvi v76 fun x78 =>
    if x78 = x70 then (
      if x70 = 0 then (
        (zal h77 l3 0).bind fun x79 =>
        if (lg_cmp x79 x75.toInt64) = 0 then (
          fL_law_23 S k l1 l2 l3 (l4 + 6) h77)
        else
        zbr 0 h77)
      else
      fL_law_23 S k l1 l2 l3 (l4 + 6) h77)
    else
    zbr 0 h77)
  else
  if (x1 &&& 31) = 6 then (
    (zsc S (l4 + 1)).bind fun x80 =>
    zca (fL_back l1 x80 l3 h) fun v81 h82 =>
    zvi v81 fun x83 =>
    (zsc S (l4 + 1)).bind fun x84 =>
    zcv (zob h82 l2 7) (fX7_back l2 x84 h82) fun v85 h86 =>
    zvi v85 fun x87 =>
    zcv (zob h86 l2 7) (fX7_thrown l2 h86) fun v88 h89 =>
    zvi v88 fun x90 =>
    if x90 = x83 then (
      if x83 = 0 then (
        (zal h89 l3 0).bind fun x91 =>
        if (lg_cmp x91 x87.toInt64) = 0 then (
          fL_law_23 S k l1 l2 l3 (l4 + 6) h89)
        else
        zbr 0 h89)
      else
      fL_law_23 S k l1 l2 l3 (l4 + 6) h89)
    else
    zbr 0 h89)
  else
  if (x1 &&& 31) = 7 then (
    (zsc S (l4 + 1)).bind fun x92 =>
    zca (fL_drop l1 x92 l3 h) fun v93 h94 =>
    zvi v93 fun x95 =>
    (zsc S (l4 + 1)).bind fun x96 =>
    zcv (zob h94 l2 7) (fX7_drop l2 x96 h94) fun v97 h98 =>
    zvi v97 fun x99 =>
    zcv (zob h98 l2 7) (fX7_thrown l2 h98) fun v100 h101 =>
    zvi v100 fun x102 =>
    if x102 = x95 then (
      if x95 = 0 then (
        (zal h101 l3 0).bind fun x103 =>
        if (lg_cmp x103 x99.toInt64) = 0 then (
          fL_law_23 S k l1 l2 l3 (l4 + 6) h101)
        else
        zbr 0 h101)
      else
      fL_law_23 S k l1 l2 l3 (l4 + 6) h101)
    else
    zbr 0 h101)
  else
  if (x1 &&& 31) = 8 then (
    zcv (zob h l1 6) (fX6_undo l1 h) fun v104 h105 =>
    zvi v104 fun x106 =>
    zcv (zob h105 l2 7) (fX7_undo l2 h105) fun v107 h108 =>
    zvi v107 fun x109 =>
    if x106 = x109 then (
      fL_law_23 S k l1 l2 l3 (l4 + 6) h108)
    else
    zbr 0 h108)
  else
  if (x1 &&& 31) = 9 then (
    (zsc S (l4 + 1)).bind fun x110 =>
    zca (fL_told l1 x110 l3 h) fun v111 h112 =>
    zvi v111 fun x113 =>
    (zsc S (l4 + 1)).bind fun x114 =>
    zcv (zob h112 l2 7) (fX7_told l2 x114 h112) fun v115 h116 =>
    zvi v115 fun x117 =>
    zcv (zob h116 l2 7) (fX7_thrown l2 h116) fun v118 h119 =>
    zvi v118 fun x120 =>
    if x120 = x113 then (
      if x113 = 0 then (
        (zal h119 l3 0).bind fun x121 =>
        if (lg_cmp x121 x117.toInt64) = 0 then (
          fL_law_23 S k l1 l2 l3 (l4 + 6) h119)
        else
        zbr 0 h119)
      else
      fL_law_23 S k l1 l2 l3 (l4 + 6) h119)
    else
    zbr 0 h119)
  else
  if (x1 &&& 31) = 10 then (
    (zsc S (l4 + 1)).bind fun x122 =>
    (zsc S (l4 + 2)).bind fun x123 =>
    (zsc S (l4 + 3)).bind fun x124 =>
    zca (fL_points l1 x122 x123 x124 l3 h) fun v125 h126 =>
    zvi v125 fun x127 =>
    (zsc S (l4 + 1)).bind fun x128 =>
    (zsc S (l4 + 2)).bind fun x129 =>
    (zsc S (l4 + 3)).bind fun x130 =>
    zcv (zob h126 l2 7) (fX7_points l2 x128 x129 x130 h126) fun v131 h132 =>
    zvi v131 fun x133 =>
    zcv (zob h132 l2 7) (fX7_thrown l2 h132) fun v134 h135 =>
    zvi v134 fun x136 =>
    if x136 = x127 then (
      if x127 = 0 then (
        (zal h135 l3 0).bind fun x137 =>
        if (lg_cmp x137 x133.toInt64) = 0 then (
          fL_law_23 S k l1 l2 l3 (l4 + 6) h135)
        else
        zbr 0 h135)
      else
      fL_law_23 S k l1 l2 l3 (l4 + 6) h135)
    else
    zbr 0 h135)
  else
  if (x1 &&& 31) = 11 then (
    (zsc S (l4 + 1)).bind fun x138 =>
    (zsc S (l4 + 2)).bind fun x139 =>
    zca (fL_at l1 x138 x139 l3 h) fun v140 h141 =>
    zvi v140 fun x142 =>
    (zsc S (l4 + 1)).bind fun x143 =>
    (zsc S (l4 + 2)).bind fun x144 =>
    zcv (zob h141 l2 7) (fX7_at l2 x143 x144 h141) fun v145 h146 =>
    zvi v145 fun x147 =>
    zcv (zob h146 l2 7) (fX7_thrown l2 h146) fun v148 h149 =>
    zvi v148 fun x150 =>
    if x150 = x142 then (
      if x142 = 0 then (
        (zal h149 l3 0).bind fun x151 =>
        if (lg_cmp x151 x147.toInt64) = 0 then (
          fL_law_23 S k l1 l2 l3 (l4 + 6) h149)
        else
        zbr 0 h149)
      else
      fL_law_23 S k l1 l2 l3 (l4 + 6) h149)
    else
    zbr 0 h149)
  else
  if (x1 &&& 31) = 12 then (
    (zsc S (l4 + 1)).bind fun x152 =>
    (zsc S (l4 + 2)).bind fun x153 =>
    zca (fL_coefficient l1 x152 x153 l3 h) fun v154 h155 =>
    zvi v154 fun x156 =>
    (zsc S (l4 + 1)).bind fun x157 =>
    (zsc S (l4 + 2)).bind fun x158 =>
    zcv (zob h155 l2 7) (fX7_coefficient l2 x157 x158 h155) fun v159 h160 =>
    zvi v159 fun x161 =>
    zcv (zob h160 l2 7) (fX7_thrown l2 h160) fun v162 h163 =>
    zvi v162 fun x164 =>
    if x164 = x156 then (
      if x156 = 0 then (
        (zal h163 l3 0).bind fun x165 =>
        if (lg_cmp x165 x161.toInt64) = 0 then (
          fL_law_23 S k l1 l2 l3 (l4 + 6) h163)
        else
        zbr 0 h163)
      else
      fL_law_23 S k l1 l2 l3 (l4 + 6) h163)
    else
    zbr 0 h163)
  else
  if (x1 &&& 31) = 13 then (
    (zsc S (l4 + 1)).bind fun x166 =>
    zca (fL_degree l1 x166 l3 h) fun v167 h168 =>
    zvi v167 fun x169 =>
    (zsc S (l4 + 1)).bind fun x170 =>
    zcv (zob h168 l2 7) (fX7_degree l2 x170 h168) fun v171 h172 =>
    zvi v171 fun x173 =>
    zcv (zob h172 l2 7) (fX7_thrown l2 h172) fun v174 h175 =>
    zvi v174 fun x176 =>
    if x176 = x169 then (
      if x169 = 0 then (
        (zal h175 l3 0).bind fun x177 =>
        if (lg_cmp x177 x173.toInt64) = 0 then (
          fL_law_23 S k l1 l2 l3 (l4 + 6) h175)
        else
        zbr 0 h175)
      else
      fL_law_23 S k l1 l2 l3 (l4 + 6) h175)
    else
    zbr 0 h175)
  else
  if (x1 &&& 31) = 14 then (
    (zsc S (l4 + 1)).bind fun x178 =>
    (zsc S (l4 + 2)).bind fun x179 =>
    zca (fL_taken l1 x178 x179 l3 h) fun v180 h181 =>
    zvi v180 fun x182 =>
    (zsc S (l4 + 1)).bind fun x183 =>
    (zsc S (l4 + 2)).bind fun x184 =>
    zcv (zob h181 l2 7) (fX7_taken l2 x183 x184 h181) fun v185 h186 =>
    zvi v185 fun x187 =>
    zcv (zob h186 l2 7) (fX7_thrown l2 h186) fun v188 h189 =>
    zvi v188 fun x190 =>
    if x190 = x182 then (
      if x182 = 0 then (
        (zal h189 l3 0).bind fun x191 =>
        if (lg_cmp x191 x187.toInt64) = 0 then (
          fL_law_23 S k l1 l2 l3 (l4 + 6) h189)
        else
        zbr 0 h189)
      else
      fL_law_23 S k l1 l2 l3 (l4 + 6) h189)
    else
    zbr 0 h189)
  else
  if (x1 &&& 31) = 15 then (
    (zsc S (l4 + 1)).bind fun x192 =>
    zca (fL_image l1 x192 l3 h) fun v193 h194 =>
    zvi v193 fun x195 =>
    (zsc S (l4 + 1)).bind fun x196 =>
    zcv (zob h194 l2 7) (fX7_image l2 x196 h194) fun v197 h198 =>
    zvi v197 fun x199 =>
    zcv (zob h198 l2 7) (fX7_thrown l2 h198) fun v200 h201 =>
    zvi v200 fun x202 =>
    if x202 = x195 then (
      if x195 = 0 then (
        (zal h201 l3 0).bind fun x203 =>
        if (lg_cmp x203 x199.toInt64) = 0 then (
          fL_law_23 S k l1 l2 l3 (l4 + 6) h201)
        else
        zbr 0 h201)
      else
      fL_law_23 S k l1 l2 l3 (l4 + 6) h201)
    else
    zbr 0 h201)
  else
  if (x1 &&& 31) = 16 then (
    (zsc S (l4 + 1)).bind fun x204 =>
    zca (fL_permutes l1 x204 l3 h) fun v205 h206 =>
    zvi v205 fun x207 =>
    (zsc S (l4 + 1)).bind fun x208 =>
    zcv (zob h206 l2 7) (fX7_permutes l2 x208 h206) fun v209 h210 =>
    zvi v209 fun x211 =>
    zcv (zob h210 l2 7) (fX7_thrown l2 h210) fun v212 h213 =>
    zvi v212 fun x214 =>
    if x214 = x207 then (
      if x207 = 0 then (
        (zal h213 l3 0).bind fun x215 =>
        if (lg_cmp x215 x211.toInt64) = 0 then (
          fL_law_23 S k l1 l2 l3 (l4 + 6) h213)
        else
        zbr 0 h213)
      else
      fL_law_23 S k l1 l2 l3 (l4 + 6) h213)
    else
    zbr 0 h213)
  else
  if (x1 &&& 31) = 17 then (
    (zsc S (l4 + 1)).bind fun x216 =>
    zca (fL_powers l1 x216 l3 h) fun v217 h218 =>
    zvi v217 fun x219 =>
    (zsc S (l4 + 1)).bind fun x220 =>
    zcv (zob h218 l2 7) (fX7_powers l2 x220 h218) fun v221 h222 =>
    zvi v221 fun x223 =>
    zcv (zob h222 l2 7) (fX7_thrown l2 h222) fun v224 h225 =>
    zvi v224 fun x226 =>
    if x226 = x219 then (
      if x219 = 0 then (
        (zal h225 l3 0).bind fun x227 =>
        if (lg_cmp x227 x223.toInt64) = 0 then (
          fL_law_23 S k l1 l2 l3 (l4 + 6) h225)
        else
        zbr 0 h225)
      else
      fL_law_23 S k l1 l2 l3 (l4 + 6) h225)
    else
    zbr 0 h225)
  else
  if (x1 &&& 31) = 18 then (
    (zsc S (l4 + 1)).bind fun x228 =>
    (zsc S (l4 + 2)).bind fun x229 =>
    zca (fL_cycles l1 x228 x229 l3 h) fun v230 h231 =>
    zvi v230 fun x232 =>
    (zsc S (l4 + 1)).bind fun x233 =>
    (zsc S (l4 + 2)).bind fun x234 =>
    zcv (zob h231 l2 7) (fX7_cycles l2 x233 x234 h231) fun v235 h236 =>
    zvi v235 fun x237 =>
    zcv (zob h236 l2 7) (fX7_thrown l2 h236) fun v238 h239 =>
    zvi v238 fun x240 =>
    if x240 = x232 then (
      if x232 = 0 then (
        (zal h239 l3 0).bind fun x241 =>
        if (lg_cmp x241 x237.toInt64) = 0 then (
          fL_law_23 S k l1 l2 l3 (l4 + 6) h239)
        else
        zbr 0 h239)
      else
      fL_law_23 S k l1 l2 l3 (l4 + 6) h239)
    else
    zbr 0 h239)
  else
  if (x1 &&& 31) = 19 then (
    (zsc S (l4 + 1)).bind fun x242 =>
    zca (fL_order l1 x242 l3 h) fun v243 h244 =>
    zvi v243 fun x245 =>
    (zsc S (l4 + 1)).bind fun x246 =>
    zcv (zob h244 l2 7) (fX7_order l2 x246 h244) fun v247 h248 =>
    zvi v247 fun x249 =>
    zcv (zob h248 l2 7) (fX7_thrown l2 h248) fun v250 h251 =>
    zvi v250 fun x252 =>
    if x252 = x245 then (
      if x245 = 0 then (
        (zal h251 l3 0).bind fun x253 =>
        if (lg_cmp x253 x249.toInt64) = 0 then (
          fL_law_23 S k l1 l2 l3 (l4 + 6) h251)
        else
        zbr 0 h251)
      else
      fL_law_23 S k l1 l2 l3 (l4 + 6) h251)
    else
    zbr 0 h251)
  else
  if (x1 &&& 31) = 20 then (
    (zsc S (l4 + 1)).bind fun x254 =>
    zca (fL_even l1 x254 l3 h) fun v255 h256 =>
    zvi v255 fun x257 =>
    (zsc S (l4 + 1)).bind fun x258 =>
    zcv (zob h256 l2 7) (fX7_even l2 x258 h256) fun v259 h260 =>
    zvi v259 fun x261 =>
    zcv (zob h260 l2 7) (fX7_thrown l2 h260) fun v262 h263 =>
    zvi v262 fun x264 =>
    if x264 = x257 then (
      if x257 = 0 then (
        (zal h263 l3 0).bind fun x265 =>
        if (lg_cmp x265 x261.toInt64) = 0 then (
          fL_law_23 S k l1 l2 l3 (l4 + 6) h263)
        else
        zbr 0 h263)
      else
      fL_law_23 S k l1 l2 l3 (l4 + 6) h263)
    else
    zbr 0 h263)
  else
  if (x1 &&& 31) = 21 then (
    (zsc S (l4 + 1)).bind fun x266 =>
    zca (fL_orbit l1 x266 l3 h) fun v267 h268 =>
    zvi v267 fun x269 =>
    (zsc S (l4 + 1)).bind fun x270 =>
    zcv (zob h268 l2 7) (fX7_orbit l2 x270 h268) fun v271 h272 =>
    zvi v271 fun x273 =>
    zcv (zob h272 l2 7) (fX7_thrown l2 h272) fun v274 h275 =>
    zvi v274 fun x276 =>
    if x276 = x269 then (
      if x269 = 0 then (
        (zal h275 l3 0).bind fun x277 =>
        if (lg_cmp x277 x273.toInt64) = 0 then (
          fL_law_23 S k l1 l2 l3 (l4 + 6) h275)
        else
        zbr 0 h275)
      else
      fL_law_23 S k l1 l2 l3 (l4 + 6) h275)
    else
    zbr 0 h275)
  else
  if (x1 &&& 31) = 22 then (
    zcv (zob h l1 6) (fX6_orbits l1 h) fun v278 h279 =>
    zvi v278 fun x280 =>
    zcv (zob h279 l2 7) (fX7_orbits l2 h279) fun v281 h282 =>
    zvi v281 fun x283 =>
    if x280 = x283 then (
      fL_law_23 S k l1 l2 l3 (l4 + 6) h282)
    else
    zbr 0 h282)
  else
  if (x1 &&& 31) = 23 then (
    (zsc S (l4 + 1)).bind fun x284 =>
    zca (fL_spread l1 x284 l3 h) fun v285 h286 =>
    zvi v285 fun x287 =>
    (zsc S (l4 + 1)).bind fun x288 =>
    zcv (zob h286 l2 7) (fX7_spread l2 x288 h286) fun v289 h290 =>
    zvi v289 fun x291 =>
    zcv (zob h290 l2 7) (fX7_thrown l2 h290) fun v292 h293 =>
    zvi v292 fun x294 =>
    if x294 = x287 then (
      if x287 = 0 then (
        (zal h293 l3 0).bind fun x295 =>
        if (lg_cmp x295 x291.toInt64) = 0 then (
          fL_law_23 S k l1 l2 l3 (l4 + 6) h293)
        else
        zbr 0 h293)
      else
      fL_law_23 S k l1 l2 l3 (l4 + 6) h293)
    else
    zbr 0 h293)
  else
  if (x1 &&& 31) = 24 then (
    zcv (zob h l1 6) (fX6_monomials l1 h) fun v296 h297 =>
    zvj v296 fun x298 =>
    zcv (zob h297 l2 7) (fX7_monomials l2 h297) fun v299 h300 =>
    zvj v299 fun x301 =>
    if (lg_cmp x298 x301) = 0 then (
      fL_law_23 S k l1 l2 l3 (l4 + 6) h300)
    else
    zbr 0 h300)
  else
  if (x1 &&& 31) = 25 then (
    (zsc S (l4 + 1)).bind fun x302 =>
    zca (fL_dicksons l1 x302 l3 h) fun v303 h304 =>
    zvi v303 fun x305 =>
    (zsc S (l4 + 1)).bind fun x306 =>
    zcv (zob h304 l2 7) (fX7_dicksons l2 x306 h304) fun v307 h308 =>
    zvj v307 fun x309 =>
    zcv (zob h308 l2 7) (fX7_thrown l2 h308) fun v310 h311 =>
    zvi v310 fun x312 =>
    if x312 = x305 then (
      if x305 = 0 then (
        (zal h311 l3 0).bind fun x313 =>
        if (lg_cmp x313 x309) = 0 then (
          fL_law_23 S k l1 l2 l3 (l4 + 6) h311)
        else
        zbr 0 h311)
      else
      fL_law_23 S k l1 l2 l3 (l4 + 6) h311)
    else
    zbr 0 h311)
  else
  if (x1 &&& 31) = 26 then (
    (zsc S (l4 + 1)).bind fun x314 =>
    zca (fL_binomials l1 x314 l3 h) fun v315 h316 =>
    zvi v315 fun x317 =>
    (zsc S (l4 + 1)).bind fun x318 =>
    zcv (zob h316 l2 7) (fX7_binomials l2 x318 h316) fun v319 h320 =>
    zvi v319 fun x321 =>
    zcv (zob h320 l2 7) (fX7_thrown l2 h320) fun v322 h323 =>
    zvi v322 fun x324 =>
    if x324 = x317 then (
      if x317 = 0 then (
        (zal h323 l3 0).bind fun x325 =>
        if (lg_cmp x325 x321.toInt64) = 0 then (
          fL_law_23 S k l1 l2 l3 (l4 + 6) h323)
        else
        zbr 0 h323)
      else
      fL_law_23 S k l1 l2 l3 (l4 + 6) h323)
    else
    zbr 0 h323)
  else
  if (x1 &&& 31) = 27 then (
    zcv (zob h l1 6) (fX6_print l1 h) fun v326 h327 =>
    zvj v326 fun x328 =>
    zcv (zob h327 l2 7) (fX7_print l2 h327) fun v329 h330 =>
    zvj v329 fun x331 =>
    if (lg_cmp x328 x331) = 0 then (
      fL_law_23 S k l1 l2 l3 (l4 + 6) h330)
    else
    zbr 0 h330)
  else
  if (x1 &&& 31) = 28 then (
    (zsc S (l4 + 1)).bind fun x332 =>
    zcv (zob h l1 6) (fX6_status l1 x332 h) fun v333 h334 =>
    zvi v333 fun x335 =>
    (zsc S (l4 + 1)).bind fun x336 =>
    zcv (zob h334 l2 7) (fX7_status l2 x336 h334) fun v337 h338 =>
    zvi v337 fun x339 =>
    if x335 = x339 then (
      fL_law_23 S k l1 l2 l3 (l4 + 6) h338)
    else
    zbr 0 h338)
  else
  fL_law_23 S k l1 l2 l3 (l4 + 6) h
set_option maxRecDepth 20000 in
theorem rL_law_23 {X : CT} {V : VT} {d n0 k0 : Nat} (hV : V.2.2.2.2.2.stackTraces = false) (S : SC) (hS : zSc X V S) (fu : Nat) : ∀ (l1 : Nat) (l2 : Nat) (l3 : Nat) (l4 : Int32) (h : AH), zG X V RL "law" cL_law 8 (some .boolean) (d + 68) n0 k0 (fL_law_23 S fu l1 l2 l3 l4 h) 23 [(0, .float (UInt32.ofNat 400)), (1, .ref l1), (2, .ref l2), (3, .ref l3), (4, .int l4)] [] h := by
  induction fu with
  | zero => intros; exact z_none
  | succ k ih =>
    intro l1 l2 l3 l4 h
    rw [fL_law_23]
    refine z_iload 4 rfl dL_law_23 ?_
    refine z_sload_n 0 rfl rfl dL_law_25 ?_
    refine z_xL hS dL_law_26 ?_
    refine z_bipush (v := 6) (by decide) dL_law_27 ?_
    refine z_isub dL_law_29 ?_
    refine z_icmp_gt 1694 (by decide) dL_law_30 ?_ ?_
    · refine z_iconst (v := 1) (by decide) dL_law_1694 ?_
      exact z_zret rfl dL_law_1695
    · refine z_sload_n 0 rfl rfl dL_law_33 ?_
      refine z_iload 4 rfl dL_law_34 ?_
      refine z_xI hS dL_law_36 (fun x1 => ?_)
      refine z_bipush (v := 31) (by decide) dL_law_37 ?_
      refine z_iand dL_law_39 ?_
      refine z_if (fun q0 => ?_) (fun q0 => ?_)
      · refine z_tabIn q0 172 (by decide) (by decide) rfl (by decide) dL_law_40 ?_
        refine z_aload_n 1 rfl rfl dL_law_172 ?_
        refine z_sload_n 0 rfl rfl dL_law_173 ?_
        refine z_iload 4 rfl dL_law_174 ?_
        refine z_iconst (v := 1) (by decide) dL_law_176 ?_
        refine z_iadd dL_law_177 ?_
        refine z_xI hS dL_law_178 (fun x2 => ?_)
        refine z_sload_n 0 rfl rfl dL_law_179 ?_
        refine z_iload 4 rfl dL_law_180 ?_
        refine z_iconst (v := 2) (by decide) dL_law_182 ?_
        refine z_iadd dL_law_183 ?_
        refine z_xI hS dL_law_184 (fun x3 => ?_)
        refine z_sload_n 0 rfl rfl dL_law_185 ?_
        refine z_iload 4 rfl dL_law_186 ?_
        refine z_iconst (v := 3) (by decide) dL_law_188 ?_
        refine z_iadd dL_law_189 ?_
        refine z_xI hS dL_law_190 (fun x4 => ?_)
        refine z_sload_n 0 rfl rfl dL_law_191 ?_
        refine z_iload 4 rfl dL_law_192 ?_
        refine z_iconst (v := 4) (by decide) dL_law_194 ?_
        refine z_iadd dL_law_195 ?_
        refine z_xI hS dL_law_196 (fun x5 => ?_)
        refine z_sload_n 0 rfl rfl dL_law_197 ?_
        refine z_iload 4 rfl dL_law_198 ?_
        refine z_iconst (v := 5) (by decide) dL_law_200 ?_
        refine z_iadd dL_law_201 ?_
        refine z_xI hS dL_law_202 (fun x6 => ?_)
        refine z_cV (st := []) [.int x2, .int x3, .int x4, .int x5, .int x6] zk_RL_89 rfl (Nat.le_of_ble_eq_true rfl) dL_law_203 (mX6_feed hV (d + 65) l1 x2 x3 x4 x5 x6 h) (fun v7 h8 => ?_)
        refine z_vi (fun x9 => ?_)
        refine z_aload_n 2 rfl rfl dL_law_206 ?_
        refine z_sload_n 0 rfl rfl dL_law_207 ?_
        refine z_iload 4 rfl dL_law_208 ?_
        refine z_iconst (v := 1) (by decide) dL_law_210 ?_
        refine z_iadd dL_law_211 ?_
        refine z_xI hS dL_law_212 (fun x10 => ?_)
        refine z_sload_n 0 rfl rfl dL_law_213 ?_
        refine z_iload 4 rfl dL_law_214 ?_
        refine z_iconst (v := 2) (by decide) dL_law_216 ?_
        refine z_iadd dL_law_217 ?_
        refine z_xI hS dL_law_218 (fun x11 => ?_)
        refine z_sload_n 0 rfl rfl dL_law_219 ?_
        refine z_iload 4 rfl dL_law_220 ?_
        refine z_iconst (v := 3) (by decide) dL_law_222 ?_
        refine z_iadd dL_law_223 ?_
        refine z_xI hS dL_law_224 (fun x12 => ?_)
        refine z_sload_n 0 rfl rfl dL_law_225 ?_
        refine z_iload 4 rfl dL_law_226 ?_
        refine z_iconst (v := 4) (by decide) dL_law_228 ?_
        refine z_iadd dL_law_229 ?_
        refine z_xI hS dL_law_230 (fun x13 => ?_)
        refine z_sload_n 0 rfl rfl dL_law_231 ?_
        refine z_iload 4 rfl dL_law_232 ?_
        refine z_iconst (v := 5) (by decide) dL_law_234 ?_
        refine z_iadd dL_law_235 ?_
        refine z_xI hS dL_law_236 (fun x14 => ?_)
        refine z_cV (st := [.int x9]) [.int x10, .int x11, .int x12, .int x13, .int x14] zk_RL_93 rfl (Nat.le_of_ble_eq_true rfl) dL_law_237 (mX7_feed hV (d + 66) l2 x10 x11 x12 x13 x14 h8) (fun v15 h16 => ?_)
        refine z_vi (fun x17 => ?_)
        refine z_icmp_eq 1688 (by decide) dL_law_240 ?_ ?_
        · refine z_inc (w := 6) (lv' := [(4, .int (l4 + 6)), (0, .float (UInt32.ofNat 400)), (1, .ref l1), (2, .ref l2), (3, .ref l3)]) 4 rfl (by decide) (by decide) rfl dL_law_1688 ?_
          refine z_goto 23 (by decide) dL_law_1691 ?_
          exact z_sub [1, 2, 3, 4, 0] rfl (ih l1 l2 l3 (l4 + 6) h16)
        · refine z_iconst (v := 0) (by decide) dL_law_243 ?_
          exact z_zret rfl dL_law_244
      · refine z_if (fun q1 => ?_) (fun q1 => ?_)
        · refine z_tabIn q1 245 (by decide) (by decide) rfl (by decide) dL_law_40 ?_
          refine z_aload_n 1 rfl rfl dL_law_245 ?_
          refine z_sload_n 0 rfl rfl dL_law_246 ?_
          refine z_iload 4 rfl dL_law_247 ?_
          refine z_iconst (v := 1) (by decide) dL_law_249 ?_
          refine z_iadd dL_law_250 ?_
          refine z_xI hS dL_law_251 (fun x18 => ?_)
          refine z_aload_n 3 rfl rfl dL_law_252 ?_
          refine z_cW (st := []) [.ref l1, .int x18, .ref l3] zkw_RL_94 rfl (Nat.le_of_ble_eq_true rfl) dL_law_253 (mL_text hV (d + 0) l1 x18 l3 h) (fun v19 h20 => ?_)
          refine z_vi (fun x21 => ?_)
          refine z_istore (lv' := [(5, .int x21), (0, .float (UInt32.ofNat 400)), (1, .ref l1), (2, .ref l2), (3, .ref l3), (4, .int l4)]) (by decide) rfl dL_law_256 ?_
          refine z_aload_n 3 rfl rfl dL_law_258 ?_
          refine z_sload_n 1 rfl rfl dL_law_259 ?_
          refine z_iload 5 rfl dL_law_260 ?_
          refine z_iconst (v := 1) (by decide) dL_law_262 ?_
          refine z_iadd dL_law_263 ?_
          refine z_xI hS dL_law_264 (fun x22 => ?_)
          refine z_cV (st := []) [.int x22] zk_RL_99 rfl (Nat.le_of_ble_eq_true rfl) dL_law_265 (mX7_text hV (d + 4) l2 x22 h20) (fun v23 h24 => ?_)
          refine z_vi (fun x25 => ?_)
          refine z_istore (lv' := [(6, .int x25), (5, .int x21), (0, .float (UInt32.ofNat 400)), (1, .ref l1), (2, .ref l2), (3, .ref l3), (4, .int l4)]) (by decide) rfl dL_law_268 ?_
          refine z_aload_n 4 rfl rfl dL_law_270 ?_
          refine z_cV (st := []) [] zk_RL_100 rfl (Nat.le_of_ble_eq_true rfl) dL_law_271 (mX7_thrown hV (d + 66) l2 h24) (fun v26 h27 => ?_)
          refine z_vi (fun x28 => ?_)
          refine z_iload 1 rfl dL_law_274 ?_
          refine z_icmp_eq 281 (by decide) dL_law_276 ?_ ?_
          · refine z_iload 1 rfl dL_law_281 ?_
            refine z_if_ne 298 (by decide) dL_law_283 ?_ ?_
            · refine z_aload_n 5 rfl rfl dL_law_286 ?_
              refine z_iconst (v := 0) (by decide) dL_law_287 ?_
              refine z_aJ dL_law_288 (fun x29 => ?_)
              refine z_iload 0 rfl dL_law_289 ?_
              refine z_i2l dL_law_291 ?_
              refine z_lcmp dL_law_292 ?_
              refine z_if_eq 298 (by decide) dL_law_293 ?_ ?_
              · refine z_goto 1688 (by decide) dL_law_298 ?_
                refine z_inc (w := 6) (lv' := [(4, .int (l4 + 6)), (6, .int x25), (5, .int x21), (0, .float (UInt32.ofNat 400)), (1, .ref l1), (2, .ref l2), (3, .ref l3)]) 6 rfl (by decide) (by decide) rfl dL_law_1688 ?_
                refine z_goto 23 (by decide) dL_law_1691 ?_
                exact z_sub [3, 4, 5, 6, 0] rfl (ih l1 l2 l3 (l4 + 6) h27)
              · refine z_iconst (v := 0) (by decide) dL_law_296 ?_
                exact z_zret rfl dL_law_297
            · refine z_goto 1688 (by decide) dL_law_298 ?_
              refine z_inc (w := 6) (lv' := [(4, .int (l4 + 6)), (6, .int x25), (5, .int x21), (0, .float (UInt32.ofNat 400)), (1, .ref l1), (2, .ref l2), (3, .ref l3)]) 6 rfl (by decide) (by decide) rfl dL_law_1688 ?_
              refine z_goto 23 (by decide) dL_law_1691 ?_
              exact z_sub [3, 4, 5, 6, 0] rfl (ih l1 l2 l3 (l4 + 6) h27)
          · refine z_iconst (v := 0) (by decide) dL_law_279 ?_
            exact z_zret rfl dL_law_280
        · refine z_if (fun q2 => ?_) (fun q2 => ?_)
          · refine z_tabIn q2 301 (by decide) (by decide) rfl (by decide) dL_law_40 ?_
            refine z_aload_n 1 rfl rfl dL_law_301 ?_
            refine z_cV (st := []) [] zk_RL_104 rfl (Nat.le_of_ble_eq_true rfl) dL_law_302 (mX6_fault hV (d + 66) l1 h) (fun v30 h31 => ?_)
            refine z_vi (fun x32 => ?_)
            refine z_aload_n 2 rfl rfl dL_law_305 ?_
            refine z_cV (st := [.int x32]) [] zk_RL_107 rfl (Nat.le_of_ble_eq_true rfl) dL_law_306 (mX7_fault hV (d + 66) l2 h31) (fun v33 h34 => ?_)
            refine z_vi (fun x35 => ?_)
            refine z_icmp_eq 1688 (by decide) dL_law_309 ?_ ?_
            · refine z_inc (w := 6) (lv' := [(4, .int (l4 + 6)), (0, .float (UInt32.ofNat 400)), (1, .ref l1), (2, .ref l2), (3, .ref l3)]) 4 rfl (by decide) (by decide) rfl dL_law_1688 ?_
              refine z_goto 23 (by decide) dL_law_1691 ?_
              exact z_sub [1, 2, 3, 4, 0] rfl (ih l1 l2 l3 (l4 + 6) h34)
            · refine z_iconst (v := 0) (by decide) dL_law_312 ?_
              exact z_zret rfl dL_law_313
          · refine z_if (fun q3 => ?_) (fun q3 => ?_)
            · refine z_tabIn q3 314 (by decide) (by decide) rfl (by decide) dL_law_40 ?_
              refine z_aload_n 1 rfl rfl dL_law_314 ?_
              refine z_sload_n 0 rfl rfl dL_law_315 ?_
              refine z_iload 4 rfl dL_law_316 ?_
              refine z_iconst (v := 1) (by decide) dL_law_318 ?_
              refine z_iadd dL_law_319 ?_
              refine z_xI hS dL_law_320 (fun x36 => ?_)
              refine z_sload_n 0 rfl rfl dL_law_321 ?_
              refine z_iload 4 rfl dL_law_322 ?_
              refine z_iconst (v := 2) (by decide) dL_law_324 ?_
              refine z_iadd dL_law_325 ?_
              refine z_xI hS dL_law_326 (fun x37 => ?_)
              refine z_sload_n 0 rfl rfl dL_law_327 ?_
              refine z_iload 4 rfl dL_law_328 ?_
              refine z_iconst (v := 3) (by decide) dL_law_330 ?_
              refine z_iadd dL_law_331 ?_
              refine z_xI hS dL_law_332 (fun x38 => ?_)
              refine z_aload_n 3 rfl rfl dL_law_333 ?_
              refine z_cW (st := []) [.ref l1, .int x36, .int x37, .int x38, .ref l3] zkw_RL_108 rfl (Nat.le_of_ble_eq_true rfl) dL_law_334 (mL_value hV (d + 59) l1 x36 x37 x38 l3 h) (fun v39 h40 => ?_)
              refine z_vi (fun x41 => ?_)
              refine z_istore (lv' := [(5, .int x41), (0, .float (UInt32.ofNat 400)), (1, .ref l1), (2, .ref l2), (3, .ref l3), (4, .int l4)]) (by decide) rfl dL_law_337 ?_
              refine z_aload_n 3 rfl rfl dL_law_339 ?_
              refine z_sload_n 1 rfl rfl dL_law_340 ?_
              refine z_iload 5 rfl dL_law_341 ?_
              refine z_iconst (v := 1) (by decide) dL_law_343 ?_
              refine z_iadd dL_law_344 ?_
              refine z_xI hS dL_law_345 (fun x42 => ?_)
              refine z_sload_n 1 rfl rfl dL_law_346 ?_
              refine z_iload 5 rfl dL_law_347 ?_
              refine z_iconst (v := 2) (by decide) dL_law_349 ?_
              refine z_iadd dL_law_350 ?_
              refine z_xI hS dL_law_351 (fun x43 => ?_)
              refine z_sload_n 1 rfl rfl dL_law_352 ?_
              refine z_iload 5 rfl dL_law_353 ?_
              refine z_iconst (v := 3) (by decide) dL_law_355 ?_
              refine z_iadd dL_law_356 ?_
              refine z_xI hS dL_law_357 (fun x44 => ?_)
              refine z_cV (st := []) [.int x42, .int x43, .int x44] zk_RL_111 rfl (Nat.le_of_ble_eq_true rfl) dL_law_358 (mX7_value hV (d + 61) l2 x42 x43 x44 h40) (fun v45 h46 => ?_)
              refine z_vi (fun x47 => ?_)
              refine z_istore (lv' := [(6, .int x47), (5, .int x41), (0, .float (UInt32.ofNat 400)), (1, .ref l1), (2, .ref l2), (3, .ref l3), (4, .int l4)]) (by decide) rfl dL_law_361 ?_
              refine z_aload_n 4 rfl rfl dL_law_363 ?_
              refine z_cV (st := []) [] zk_RL_100 rfl (Nat.le_of_ble_eq_true rfl) dL_law_364 (mX7_thrown hV (d + 66) l2 h46) (fun v48 h49 => ?_)
              refine z_vi (fun x50 => ?_)
              refine z_iload 1 rfl dL_law_367 ?_
              refine z_icmp_eq 374 (by decide) dL_law_369 ?_ ?_
              · refine z_iload 1 rfl dL_law_374 ?_
                refine z_if_ne 391 (by decide) dL_law_376 ?_ ?_
                · refine z_aload_n 5 rfl rfl dL_law_379 ?_
                  refine z_iconst (v := 0) (by decide) dL_law_380 ?_
                  refine z_aJ dL_law_381 (fun x51 => ?_)
                  refine z_iload 0 rfl dL_law_382 ?_
                  refine z_i2l dL_law_384 ?_
                  refine z_lcmp dL_law_385 ?_
                  refine z_if_eq 391 (by decide) dL_law_386 ?_ ?_
                  · refine z_goto 1688 (by decide) dL_law_391 ?_
                    refine z_inc (w := 6) (lv' := [(4, .int (l4 + 6)), (6, .int x47), (5, .int x41), (0, .float (UInt32.ofNat 400)), (1, .ref l1), (2, .ref l2), (3, .ref l3)]) 6 rfl (by decide) (by decide) rfl dL_law_1688 ?_
                    refine z_goto 23 (by decide) dL_law_1691 ?_
                    exact z_sub [3, 4, 5, 6, 0] rfl (ih l1 l2 l3 (l4 + 6) h49)
                  · refine z_iconst (v := 0) (by decide) dL_law_389 ?_
                    exact z_zret rfl dL_law_390
                · refine z_goto 1688 (by decide) dL_law_391 ?_
                  refine z_inc (w := 6) (lv' := [(4, .int (l4 + 6)), (6, .int x47), (5, .int x41), (0, .float (UInt32.ofNat 400)), (1, .ref l1), (2, .ref l2), (3, .ref l3)]) 6 rfl (by decide) (by decide) rfl dL_law_1688 ?_
                  refine z_goto 23 (by decide) dL_law_1691 ?_
                  exact z_sub [3, 4, 5, 6, 0] rfl (ih l1 l2 l3 (l4 + 6) h49)
              · refine z_iconst (v := 0) (by decide) dL_law_372 ?_
                exact z_zret rfl dL_law_373
            · refine z_if (fun q4 => ?_) (fun q4 => ?_)
              · refine z_tabIn q4 394 (by decide) (by decide) rfl (by decide) dL_law_40 ?_
                refine z_aload_n 1 rfl rfl dL_law_394 ?_
                refine z_sload_n 0 rfl rfl dL_law_395 ?_
                refine z_iload 4 rfl dL_law_396 ?_
                refine z_iconst (v := 1) (by decide) dL_law_398 ?_
                refine z_iadd dL_law_399 ?_
                refine z_xI hS dL_law_400 (fun x52 => ?_)
                refine z_sload_n 0 rfl rfl dL_law_401 ?_
                refine z_iload 4 rfl dL_law_402 ?_
                refine z_iconst (v := 2) (by decide) dL_law_404 ?_
                refine z_iadd dL_law_405 ?_
                refine z_xI hS dL_law_406 (fun x53 => ?_)
                refine z_aload_n 3 rfl rfl dL_law_407 ?_
                refine z_cW (st := []) [.ref l1, .int x52, .int x53, .ref l3] zkw_RL_112 rfl (Nat.le_of_ble_eq_true rfl) dL_law_408 (mL_after hV (d + 59) l1 x52 x53 l3 h) (fun v54 h55 => ?_)
                refine z_vi (fun x56 => ?_)
                refine z_istore (lv' := [(5, .int x56), (0, .float (UInt32.ofNat 400)), (1, .ref l1), (2, .ref l2), (3, .ref l3), (4, .int l4)]) (by decide) rfl dL_law_411 ?_
                refine z_aload_n 3 rfl rfl dL_law_413 ?_
                refine z_sload_n 1 rfl rfl dL_law_414 ?_
                refine z_iload 5 rfl dL_law_415 ?_
                refine z_iconst (v := 1) (by decide) dL_law_417 ?_
                refine z_iadd dL_law_418 ?_
                refine z_xI hS dL_law_419 (fun x57 => ?_)
                refine z_sload_n 1 rfl rfl dL_law_420 ?_
                refine z_iload 5 rfl dL_law_421 ?_
                refine z_iconst (v := 2) (by decide) dL_law_423 ?_
                refine z_iadd dL_law_424 ?_
                refine z_xI hS dL_law_425 (fun x58 => ?_)
                refine z_cV (st := []) [.int x57, .int x58] zk_RL_115 rfl (Nat.le_of_ble_eq_true rfl) dL_law_426 (mX7_after hV (d + 61) l2 x57 x58 h55) (fun v59 h60 => ?_)
                refine z_vi (fun x61 => ?_)
                refine z_istore (lv' := [(6, .int x61), (5, .int x56), (0, .float (UInt32.ofNat 400)), (1, .ref l1), (2, .ref l2), (3, .ref l3), (4, .int l4)]) (by decide) rfl dL_law_429 ?_
                refine z_aload_n 4 rfl rfl dL_law_431 ?_
                refine z_cV (st := []) [] zk_RL_100 rfl (Nat.le_of_ble_eq_true rfl) dL_law_432 (mX7_thrown hV (d + 66) l2 h60) (fun v62 h63 => ?_)
                refine z_vi (fun x64 => ?_)
                refine z_iload 1 rfl dL_law_435 ?_
                refine z_icmp_eq 442 (by decide) dL_law_437 ?_ ?_
                · refine z_iload 1 rfl dL_law_442 ?_
                  refine z_if_ne 459 (by decide) dL_law_444 ?_ ?_
                  · refine z_aload_n 5 rfl rfl dL_law_447 ?_
                    refine z_iconst (v := 0) (by decide) dL_law_448 ?_
                    refine z_aJ dL_law_449 (fun x65 => ?_)
                    refine z_iload 0 rfl dL_law_450 ?_
                    refine z_i2l dL_law_452 ?_
                    refine z_lcmp dL_law_453 ?_
                    refine z_if_eq 459 (by decide) dL_law_454 ?_ ?_
                    · refine z_goto 1688 (by decide) dL_law_459 ?_
                      refine z_inc (w := 6) (lv' := [(4, .int (l4 + 6)), (6, .int x61), (5, .int x56), (0, .float (UInt32.ofNat 400)), (1, .ref l1), (2, .ref l2), (3, .ref l3)]) 6 rfl (by decide) (by decide) rfl dL_law_1688 ?_
                      refine z_goto 23 (by decide) dL_law_1691 ?_
                      exact z_sub [3, 4, 5, 6, 0] rfl (ih l1 l2 l3 (l4 + 6) h63)
                    · refine z_iconst (v := 0) (by decide) dL_law_457 ?_
                      exact z_zret rfl dL_law_458
                  · refine z_goto 1688 (by decide) dL_law_459 ?_
                    refine z_inc (w := 6) (lv' := [(4, .int (l4 + 6)), (6, .int x61), (5, .int x56), (0, .float (UInt32.ofNat 400)), (1, .ref l1), (2, .ref l2), (3, .ref l3)]) 6 rfl (by decide) (by decide) rfl dL_law_1688 ?_
                    refine z_goto 23 (by decide) dL_law_1691 ?_
                    exact z_sub [3, 4, 5, 6, 0] rfl (ih l1 l2 l3 (l4 + 6) h63)
                · refine z_iconst (v := 0) (by decide) dL_law_440 ?_
                  exact z_zret rfl dL_law_441
              · refine z_if (fun q5 => ?_) (fun q5 => ?_)
                · refine z_tabIn q5 462 (by decide) (by decide) rfl (by decide) dL_law_40 ?_
                  refine z_aload_n 1 rfl rfl dL_law_462 ?_
                  refine z_sload_n 0 rfl rfl dL_law_463 ?_
                  refine z_iload 4 rfl dL_law_464 ?_
                  refine z_iconst (v := 1) (by decide) dL_law_466 ?_
                  refine z_iadd dL_law_467 ?_
                  refine z_xI hS dL_law_468 (fun x66 => ?_)
                  refine z_sload_n 0 rfl rfl dL_law_469 ?_
                  refine z_iload 4 rfl dL_law_470 ?_
                  refine z_iconst (v := 2) (by decide) dL_law_472 ?_
                  refine z_iadd dL_law_473 ?_
                  refine z_xI hS dL_law_474 (fun x67 => ?_)
                  refine z_aload_n 3 rfl rfl dL_law_475 ?_
                  refine z_cW (st := []) [.ref l1, .int x66, .int x67, .ref l3] zkw_RL_116 rfl (Nat.le_of_ble_eq_true rfl) dL_law_476 (mL_again hV (d + 59) l1 x66 x67 l3 h) (fun v68 h69 => ?_)
                  refine z_vi (fun x70 => ?_)
                  refine z_istore (lv' := [(5, .int x70), (0, .float (UInt32.ofNat 400)), (1, .ref l1), (2, .ref l2), (3, .ref l3), (4, .int l4)]) (by decide) rfl dL_law_479 ?_
                  refine z_aload_n 3 rfl rfl dL_law_481 ?_
                  refine z_sload_n 1 rfl rfl dL_law_482 ?_
                  refine z_iload 5 rfl dL_law_483 ?_
                  refine z_iconst (v := 1) (by decide) dL_law_485 ?_
                  refine z_iadd dL_law_486 ?_
                  refine z_xI hS dL_law_487 (fun x71 => ?_)
                  refine z_sload_n 1 rfl rfl dL_law_488 ?_
                  refine z_iload 5 rfl dL_law_489 ?_
                  refine z_iconst (v := 2) (by decide) dL_law_491 ?_
                  refine z_iadd dL_law_492 ?_
                  refine z_xI hS dL_law_493 (fun x72 => ?_)
                  refine z_cV (st := []) [.int x71, .int x72] zk_RL_118 rfl (Nat.le_of_ble_eq_true rfl) dL_law_494 (mX7_again hV (d + 61) l2 x71 x72 h69) (fun v73 h74 => ?_)
                  refine z_vi (fun x75 => ?_)
                  refine z_istore (lv' := [(6, .int x75), (5, .int x70), (0, .float (UInt32.ofNat 400)), (1, .ref l1), (2, .ref l2), (3, .ref l3), (4, .int l4)]) (by decide) rfl dL_law_497 ?_
                  refine z_aload_n 4 rfl rfl dL_law_499 ?_
                  refine z_cV (st := []) [] zk_RL_100 rfl (Nat.le_of_ble_eq_true rfl) dL_law_500 (mX7_thrown hV (d + 66) l2 h74) (fun v76 h77 => ?_)
                  refine z_vi (fun x78 => ?_)
                  refine z_iload 1 rfl dL_law_503 ?_
                  refine z_icmp_eq 510 (by decide) dL_law_505 ?_ ?_
                  · refine z_iload 1 rfl dL_law_510 ?_
                    refine z_if_ne 527 (by decide) dL_law_512 ?_ ?_
                    · refine z_aload_n 5 rfl rfl dL_law_515 ?_
                      refine z_iconst (v := 0) (by decide) dL_law_516 ?_
                      refine z_aJ dL_law_517 (fun x79 => ?_)
                      refine z_iload 0 rfl dL_law_518 ?_
                      refine z_i2l dL_law_520 ?_
                      refine z_lcmp dL_law_521 ?_
                      refine z_if_eq 527 (by decide) dL_law_522 ?_ ?_
                      · refine z_goto 1688 (by decide) dL_law_527 ?_
                        refine z_inc (w := 6) (lv' := [(4, .int (l4 + 6)), (6, .int x75), (5, .int x70), (0, .float (UInt32.ofNat 400)), (1, .ref l1), (2, .ref l2), (3, .ref l3)]) 6 rfl (by decide) (by decide) rfl dL_law_1688 ?_
                        refine z_goto 23 (by decide) dL_law_1691 ?_
                        exact z_sub [3, 4, 5, 6, 0] rfl (ih l1 l2 l3 (l4 + 6) h77)
                      · refine z_iconst (v := 0) (by decide) dL_law_525 ?_
                        exact z_zret rfl dL_law_526
                    · refine z_goto 1688 (by decide) dL_law_527 ?_
                      refine z_inc (w := 6) (lv' := [(4, .int (l4 + 6)), (6, .int x75), (5, .int x70), (0, .float (UInt32.ofNat 400)), (1, .ref l1), (2, .ref l2), (3, .ref l3)]) 6 rfl (by decide) (by decide) rfl dL_law_1688 ?_
                      refine z_goto 23 (by decide) dL_law_1691 ?_
                      exact z_sub [3, 4, 5, 6, 0] rfl (ih l1 l2 l3 (l4 + 6) h77)
                  · refine z_iconst (v := 0) (by decide) dL_law_508 ?_
                    exact z_zret rfl dL_law_509
                · refine z_if (fun q6 => ?_) (fun q6 => ?_)
                  · refine z_tabIn q6 530 (by decide) (by decide) rfl (by decide) dL_law_40 ?_
                    refine z_aload_n 1 rfl rfl dL_law_530 ?_
                    refine z_sload_n 0 rfl rfl dL_law_531 ?_
                    refine z_iload 4 rfl dL_law_532 ?_
                    refine z_iconst (v := 1) (by decide) dL_law_534 ?_
                    refine z_iadd dL_law_535 ?_
                    refine z_xI hS dL_law_536 (fun x80 => ?_)
                    refine z_aload_n 3 rfl rfl dL_law_537 ?_
                    refine z_cW (st := []) [.ref l1, .int x80, .ref l3] zkw_RL_119 rfl (Nat.le_of_ble_eq_true rfl) dL_law_538 (mL_back hV (d + 59) l1 x80 l3 h) (fun v81 h82 => ?_)
                    refine z_vi (fun x83 => ?_)
                    refine z_istore (lv' := [(5, .int x83), (0, .float (UInt32.ofNat 400)), (1, .ref l1), (2, .ref l2), (3, .ref l3), (4, .int l4)]) (by decide) rfl dL_law_541 ?_
                    refine z_aload_n 3 rfl rfl dL_law_543 ?_
                    refine z_sload_n 1 rfl rfl dL_law_544 ?_
                    refine z_iload 5 rfl dL_law_545 ?_
                    refine z_iconst (v := 1) (by decide) dL_law_547 ?_
                    refine z_iadd dL_law_548 ?_
                    refine z_xI hS dL_law_549 (fun x84 => ?_)
                    refine z_cV (st := []) [.int x84] zk_RL_121 rfl (Nat.le_of_ble_eq_true rfl) dL_law_550 (mX7_back hV (d + 61) l2 x84 h82) (fun v85 h86 => ?_)
                    refine z_vi (fun x87 => ?_)
                    refine z_istore (lv' := [(6, .int x87), (5, .int x83), (0, .float (UInt32.ofNat 400)), (1, .ref l1), (2, .ref l2), (3, .ref l3), (4, .int l4)]) (by decide) rfl dL_law_553 ?_
                    refine z_aload_n 4 rfl rfl dL_law_555 ?_
                    refine z_cV (st := []) [] zk_RL_100 rfl (Nat.le_of_ble_eq_true rfl) dL_law_556 (mX7_thrown hV (d + 66) l2 h86) (fun v88 h89 => ?_)
                    refine z_vi (fun x90 => ?_)
                    refine z_iload 1 rfl dL_law_559 ?_
                    refine z_icmp_eq 566 (by decide) dL_law_561 ?_ ?_
                    · refine z_iload 1 rfl dL_law_566 ?_
                      refine z_if_ne 583 (by decide) dL_law_568 ?_ ?_
                      · refine z_aload_n 5 rfl rfl dL_law_571 ?_
                        refine z_iconst (v := 0) (by decide) dL_law_572 ?_
                        refine z_aJ dL_law_573 (fun x91 => ?_)
                        refine z_iload 0 rfl dL_law_574 ?_
                        refine z_i2l dL_law_576 ?_
                        refine z_lcmp dL_law_577 ?_
                        refine z_if_eq 583 (by decide) dL_law_578 ?_ ?_
                        · refine z_goto 1688 (by decide) dL_law_583 ?_
                          refine z_inc (w := 6) (lv' := [(4, .int (l4 + 6)), (6, .int x87), (5, .int x83), (0, .float (UInt32.ofNat 400)), (1, .ref l1), (2, .ref l2), (3, .ref l3)]) 6 rfl (by decide) (by decide) rfl dL_law_1688 ?_
                          refine z_goto 23 (by decide) dL_law_1691 ?_
                          exact z_sub [3, 4, 5, 6, 0] rfl (ih l1 l2 l3 (l4 + 6) h89)
                        · refine z_iconst (v := 0) (by decide) dL_law_581 ?_
                          exact z_zret rfl dL_law_582
                      · refine z_goto 1688 (by decide) dL_law_583 ?_
                        refine z_inc (w := 6) (lv' := [(4, .int (l4 + 6)), (6, .int x87), (5, .int x83), (0, .float (UInt32.ofNat 400)), (1, .ref l1), (2, .ref l2), (3, .ref l3)]) 6 rfl (by decide) (by decide) rfl dL_law_1688 ?_
                        refine z_goto 23 (by decide) dL_law_1691 ?_
                        exact z_sub [3, 4, 5, 6, 0] rfl (ih l1 l2 l3 (l4 + 6) h89)
                    · refine z_iconst (v := 0) (by decide) dL_law_564 ?_
                      exact z_zret rfl dL_law_565
                  · refine z_if (fun q7 => ?_) (fun q7 => ?_)
                    · refine z_tabIn q7 586 (by decide) (by decide) rfl (by decide) dL_law_40 ?_
                      refine z_aload_n 1 rfl rfl dL_law_586 ?_
                      refine z_sload_n 0 rfl rfl dL_law_587 ?_
                      refine z_iload 4 rfl dL_law_588 ?_
                      refine z_iconst (v := 1) (by decide) dL_law_590 ?_
                      refine z_iadd dL_law_591 ?_
                      refine z_xI hS dL_law_592 (fun x92 => ?_)
                      refine z_aload_n 3 rfl rfl dL_law_593 ?_
                      refine z_cW (st := []) [.ref l1, .int x92, .ref l3] zkw_RL_122 rfl (Nat.le_of_ble_eq_true rfl) dL_law_594 (mL_drop hV (d + 59) l1 x92 l3 h) (fun v93 h94 => ?_)
                      refine z_vi (fun x95 => ?_)
                      refine z_istore (lv' := [(5, .int x95), (0, .float (UInt32.ofNat 400)), (1, .ref l1), (2, .ref l2), (3, .ref l3), (4, .int l4)]) (by decide) rfl dL_law_597 ?_
                      refine z_aload_n 3 rfl rfl dL_law_599 ?_
                      refine z_sload_n 1 rfl rfl dL_law_600 ?_
                      refine z_iload 5 rfl dL_law_601 ?_
                      refine z_iconst (v := 1) (by decide) dL_law_603 ?_
                      refine z_iadd dL_law_604 ?_
                      refine z_xI hS dL_law_605 (fun x96 => ?_)
                      refine z_cV (st := []) [.int x96] zk_RL_124 rfl (Nat.le_of_ble_eq_true rfl) dL_law_606 (mX7_drop hV (d + 61) l2 x96 h94) (fun v97 h98 => ?_)
                      refine z_vi (fun x99 => ?_)
                      refine z_istore (lv' := [(6, .int x99), (5, .int x95), (0, .float (UInt32.ofNat 400)), (1, .ref l1), (2, .ref l2), (3, .ref l3), (4, .int l4)]) (by decide) rfl dL_law_609 ?_
                      refine z_aload_n 4 rfl rfl dL_law_611 ?_
                      refine z_cV (st := []) [] zk_RL_100 rfl (Nat.le_of_ble_eq_true rfl) dL_law_612 (mX7_thrown hV (d + 66) l2 h98) (fun v100 h101 => ?_)
                      refine z_vi (fun x102 => ?_)
                      refine z_iload 1 rfl dL_law_615 ?_
                      refine z_icmp_eq 622 (by decide) dL_law_617 ?_ ?_
                      · refine z_iload 1 rfl dL_law_622 ?_
                        refine z_if_ne 639 (by decide) dL_law_624 ?_ ?_
                        · refine z_aload_n 5 rfl rfl dL_law_627 ?_
                          refine z_iconst (v := 0) (by decide) dL_law_628 ?_
                          refine z_aJ dL_law_629 (fun x103 => ?_)
                          refine z_iload 0 rfl dL_law_630 ?_
                          refine z_i2l dL_law_632 ?_
                          refine z_lcmp dL_law_633 ?_
                          refine z_if_eq 639 (by decide) dL_law_634 ?_ ?_
                          · refine z_goto 1688 (by decide) dL_law_639 ?_
                            refine z_inc (w := 6) (lv' := [(4, .int (l4 + 6)), (6, .int x99), (5, .int x95), (0, .float (UInt32.ofNat 400)), (1, .ref l1), (2, .ref l2), (3, .ref l3)]) 6 rfl (by decide) (by decide) rfl dL_law_1688 ?_
                            refine z_goto 23 (by decide) dL_law_1691 ?_
                            exact z_sub [3, 4, 5, 6, 0] rfl (ih l1 l2 l3 (l4 + 6) h101)
                          · refine z_iconst (v := 0) (by decide) dL_law_637 ?_
                            exact z_zret rfl dL_law_638
                        · refine z_goto 1688 (by decide) dL_law_639 ?_
                          refine z_inc (w := 6) (lv' := [(4, .int (l4 + 6)), (6, .int x99), (5, .int x95), (0, .float (UInt32.ofNat 400)), (1, .ref l1), (2, .ref l2), (3, .ref l3)]) 6 rfl (by decide) (by decide) rfl dL_law_1688 ?_
                          refine z_goto 23 (by decide) dL_law_1691 ?_
                          exact z_sub [3, 4, 5, 6, 0] rfl (ih l1 l2 l3 (l4 + 6) h101)
                      · refine z_iconst (v := 0) (by decide) dL_law_620 ?_
                        exact z_zret rfl dL_law_621
                    · refine z_if (fun q8 => ?_) (fun q8 => ?_)
                      · refine z_tabIn q8 642 (by decide) (by decide) rfl (by decide) dL_law_40 ?_
                        refine z_aload_n 1 rfl rfl dL_law_642 ?_
                        refine z_cV (st := []) [] zk_RL_125 rfl (Nat.le_of_ble_eq_true rfl) dL_law_643 (mX6_undo hV (d + 63) l1 h) (fun v104 h105 => ?_)
                        refine z_vi (fun x106 => ?_)
                        refine z_aload_n 2 rfl rfl dL_law_646 ?_
                        refine z_cV (st := [.int x106]) [] zk_RL_128 rfl (Nat.le_of_ble_eq_true rfl) dL_law_647 (mX7_undo hV (d + 65) l2 h105) (fun v107 h108 => ?_)
                        refine z_vi (fun x109 => ?_)
                        refine z_icmp_eq 1688 (by decide) dL_law_650 ?_ ?_
                        · refine z_inc (w := 6) (lv' := [(4, .int (l4 + 6)), (0, .float (UInt32.ofNat 400)), (1, .ref l1), (2, .ref l2), (3, .ref l3)]) 4 rfl (by decide) (by decide) rfl dL_law_1688 ?_
                          refine z_goto 23 (by decide) dL_law_1691 ?_
                          exact z_sub [1, 2, 3, 4, 0] rfl (ih l1 l2 l3 (l4 + 6) h108)
                        · refine z_iconst (v := 0) (by decide) dL_law_653 ?_
                          exact z_zret rfl dL_law_654
                      · refine z_if (fun q9 => ?_) (fun q9 => ?_)
                        · refine z_tabIn q9 655 (by decide) (by decide) rfl (by decide) dL_law_40 ?_
                          refine z_aload_n 1 rfl rfl dL_law_655 ?_
                          refine z_sload_n 0 rfl rfl dL_law_656 ?_
                          refine z_iload 4 rfl dL_law_657 ?_
                          refine z_iconst (v := 1) (by decide) dL_law_659 ?_
                          refine z_iadd dL_law_660 ?_
                          refine z_xI hS dL_law_661 (fun x110 => ?_)
                          refine z_aload_n 3 rfl rfl dL_law_662 ?_
                          refine z_cW (st := []) [.ref l1, .int x110, .ref l3] zkw_RL_129 rfl (Nat.le_of_ble_eq_true rfl) dL_law_663 (mL_told hV (d + 59) l1 x110 l3 h) (fun v111 h112 => ?_)
                          refine z_vi (fun x113 => ?_)
                          refine z_istore (lv' := [(5, .int x113), (0, .float (UInt32.ofNat 400)), (1, .ref l1), (2, .ref l2), (3, .ref l3), (4, .int l4)]) (by decide) rfl dL_law_666 ?_
                          refine z_aload_n 3 rfl rfl dL_law_668 ?_
                          refine z_sload_n 1 rfl rfl dL_law_669 ?_
                          refine z_iload 5 rfl dL_law_670 ?_
                          refine z_iconst (v := 1) (by decide) dL_law_672 ?_
                          refine z_iadd dL_law_673 ?_
                          refine z_xI hS dL_law_674 (fun x114 => ?_)
                          refine z_cV (st := []) [.int x114] zk_RL_131 rfl (Nat.le_of_ble_eq_true rfl) dL_law_675 (mX7_told hV (d + 61) l2 x114 h112) (fun v115 h116 => ?_)
                          refine z_vi (fun x117 => ?_)
                          refine z_istore (lv' := [(6, .int x117), (5, .int x113), (0, .float (UInt32.ofNat 400)), (1, .ref l1), (2, .ref l2), (3, .ref l3), (4, .int l4)]) (by decide) rfl dL_law_678 ?_
                          refine z_aload_n 4 rfl rfl dL_law_680 ?_
                          refine z_cV (st := []) [] zk_RL_100 rfl (Nat.le_of_ble_eq_true rfl) dL_law_681 (mX7_thrown hV (d + 66) l2 h116) (fun v118 h119 => ?_)
                          refine z_vi (fun x120 => ?_)
                          refine z_iload 1 rfl dL_law_684 ?_
                          refine z_icmp_eq 691 (by decide) dL_law_686 ?_ ?_
                          · refine z_iload 1 rfl dL_law_691 ?_
                            refine z_if_ne 708 (by decide) dL_law_693 ?_ ?_
                            · refine z_aload_n 5 rfl rfl dL_law_696 ?_
                              refine z_iconst (v := 0) (by decide) dL_law_697 ?_
                              refine z_aJ dL_law_698 (fun x121 => ?_)
                              refine z_iload 0 rfl dL_law_699 ?_
                              refine z_i2l dL_law_701 ?_
                              refine z_lcmp dL_law_702 ?_
                              refine z_if_eq 708 (by decide) dL_law_703 ?_ ?_
                              · refine z_goto 1688 (by decide) dL_law_708 ?_
                                refine z_inc (w := 6) (lv' := [(4, .int (l4 + 6)), (6, .int x117), (5, .int x113), (0, .float (UInt32.ofNat 400)), (1, .ref l1), (2, .ref l2), (3, .ref l3)]) 6 rfl (by decide) (by decide) rfl dL_law_1688 ?_
                                refine z_goto 23 (by decide) dL_law_1691 ?_
                                exact z_sub [3, 4, 5, 6, 0] rfl (ih l1 l2 l3 (l4 + 6) h119)
                              · refine z_iconst (v := 0) (by decide) dL_law_706 ?_
                                exact z_zret rfl dL_law_707
                            · refine z_goto 1688 (by decide) dL_law_708 ?_
                              refine z_inc (w := 6) (lv' := [(4, .int (l4 + 6)), (6, .int x117), (5, .int x113), (0, .float (UInt32.ofNat 400)), (1, .ref l1), (2, .ref l2), (3, .ref l3)]) 6 rfl (by decide) (by decide) rfl dL_law_1688 ?_
                              refine z_goto 23 (by decide) dL_law_1691 ?_
                              exact z_sub [3, 4, 5, 6, 0] rfl (ih l1 l2 l3 (l4 + 6) h119)
                          · refine z_iconst (v := 0) (by decide) dL_law_689 ?_
                            exact z_zret rfl dL_law_690
                        · refine z_if (fun q10 => ?_) (fun q10 => ?_)
                          · refine z_tabIn q10 711 (by decide) (by decide) rfl (by decide) dL_law_40 ?_
                            refine z_aload_n 1 rfl rfl dL_law_711 ?_
                            refine z_sload_n 0 rfl rfl dL_law_712 ?_
                            refine z_iload 4 rfl dL_law_713 ?_
                            refine z_iconst (v := 1) (by decide) dL_law_715 ?_
                            refine z_iadd dL_law_716 ?_
                            refine z_xI hS dL_law_717 (fun x122 => ?_)
                            refine z_sload_n 0 rfl rfl dL_law_718 ?_
                            refine z_iload 4 rfl dL_law_719 ?_
                            refine z_iconst (v := 2) (by decide) dL_law_721 ?_
                            refine z_iadd dL_law_722 ?_
                            refine z_xI hS dL_law_723 (fun x123 => ?_)
                            refine z_sload_n 0 rfl rfl dL_law_724 ?_
                            refine z_iload 4 rfl dL_law_725 ?_
                            refine z_iconst (v := 3) (by decide) dL_law_727 ?_
                            refine z_iadd dL_law_728 ?_
                            refine z_xI hS dL_law_729 (fun x124 => ?_)
                            refine z_aload_n 3 rfl rfl dL_law_730 ?_
                            refine z_cW (st := []) [.ref l1, .int x122, .int x123, .int x124, .ref l3] zkw_RL_132 rfl (Nat.le_of_ble_eq_true rfl) dL_law_731 (mL_points hV (d + 59) l1 x122 x123 x124 l3 h) (fun v125 h126 => ?_)
                            refine z_vi (fun x127 => ?_)
                            refine z_istore (lv' := [(5, .int x127), (0, .float (UInt32.ofNat 400)), (1, .ref l1), (2, .ref l2), (3, .ref l3), (4, .int l4)]) (by decide) rfl dL_law_734 ?_
                            refine z_aload_n 3 rfl rfl dL_law_736 ?_
                            refine z_sload_n 1 rfl rfl dL_law_737 ?_
                            refine z_iload 5 rfl dL_law_738 ?_
                            refine z_iconst (v := 1) (by decide) dL_law_740 ?_
                            refine z_iadd dL_law_741 ?_
                            refine z_xI hS dL_law_742 (fun x128 => ?_)
                            refine z_sload_n 1 rfl rfl dL_law_743 ?_
                            refine z_iload 5 rfl dL_law_744 ?_
                            refine z_iconst (v := 2) (by decide) dL_law_746 ?_
                            refine z_iadd dL_law_747 ?_
                            refine z_xI hS dL_law_748 (fun x129 => ?_)
                            refine z_sload_n 1 rfl rfl dL_law_749 ?_
                            refine z_iload 5 rfl dL_law_750 ?_
                            refine z_iconst (v := 3) (by decide) dL_law_752 ?_
                            refine z_iadd dL_law_753 ?_
                            refine z_xI hS dL_law_754 (fun x130 => ?_)
                            refine z_cV (st := []) [.int x128, .int x129, .int x130] zk_RL_134 rfl (Nat.le_of_ble_eq_true rfl) dL_law_755 (mX7_points hV (d + 61) l2 x128 x129 x130 h126) (fun v131 h132 => ?_)
                            refine z_vi (fun x133 => ?_)
                            refine z_istore (lv' := [(6, .int x133), (5, .int x127), (0, .float (UInt32.ofNat 400)), (1, .ref l1), (2, .ref l2), (3, .ref l3), (4, .int l4)]) (by decide) rfl dL_law_758 ?_
                            refine z_aload_n 4 rfl rfl dL_law_760 ?_
                            refine z_cV (st := []) [] zk_RL_100 rfl (Nat.le_of_ble_eq_true rfl) dL_law_761 (mX7_thrown hV (d + 66) l2 h132) (fun v134 h135 => ?_)
                            refine z_vi (fun x136 => ?_)
                            refine z_iload 1 rfl dL_law_764 ?_
                            refine z_icmp_eq 771 (by decide) dL_law_766 ?_ ?_
                            · refine z_iload 1 rfl dL_law_771 ?_
                              refine z_if_ne 788 (by decide) dL_law_773 ?_ ?_
                              · refine z_aload_n 5 rfl rfl dL_law_776 ?_
                                refine z_iconst (v := 0) (by decide) dL_law_777 ?_
                                refine z_aJ dL_law_778 (fun x137 => ?_)
                                refine z_iload 0 rfl dL_law_779 ?_
                                refine z_i2l dL_law_781 ?_
                                refine z_lcmp dL_law_782 ?_
                                refine z_if_eq 788 (by decide) dL_law_783 ?_ ?_
                                · refine z_goto 1688 (by decide) dL_law_788 ?_
                                  refine z_inc (w := 6) (lv' := [(4, .int (l4 + 6)), (6, .int x133), (5, .int x127), (0, .float (UInt32.ofNat 400)), (1, .ref l1), (2, .ref l2), (3, .ref l3)]) 6 rfl (by decide) (by decide) rfl dL_law_1688 ?_
                                  refine z_goto 23 (by decide) dL_law_1691 ?_
                                  exact z_sub [3, 4, 5, 6, 0] rfl (ih l1 l2 l3 (l4 + 6) h135)
                                · refine z_iconst (v := 0) (by decide) dL_law_786 ?_
                                  exact z_zret rfl dL_law_787
                              · refine z_goto 1688 (by decide) dL_law_788 ?_
                                refine z_inc (w := 6) (lv' := [(4, .int (l4 + 6)), (6, .int x133), (5, .int x127), (0, .float (UInt32.ofNat 400)), (1, .ref l1), (2, .ref l2), (3, .ref l3)]) 6 rfl (by decide) (by decide) rfl dL_law_1688 ?_
                                refine z_goto 23 (by decide) dL_law_1691 ?_
                                exact z_sub [3, 4, 5, 6, 0] rfl (ih l1 l2 l3 (l4 + 6) h135)
                            · refine z_iconst (v := 0) (by decide) dL_law_769 ?_
                              exact z_zret rfl dL_law_770
                          · refine z_if (fun q11 => ?_) (fun q11 => ?_)
                            · refine z_tabIn q11 791 (by decide) (by decide) rfl (by decide) dL_law_40 ?_
                              refine z_aload_n 1 rfl rfl dL_law_791 ?_
                              refine z_sload_n 0 rfl rfl dL_law_792 ?_
                              refine z_iload 4 rfl dL_law_793 ?_
                              refine z_iconst (v := 1) (by decide) dL_law_795 ?_
                              refine z_iadd dL_law_796 ?_
                              refine z_xI hS dL_law_797 (fun x138 => ?_)
                              refine z_sload_n 0 rfl rfl dL_law_798 ?_
                              refine z_iload 4 rfl dL_law_799 ?_
                              refine z_iconst (v := 2) (by decide) dL_law_801 ?_
                              refine z_iadd dL_law_802 ?_
                              refine z_xI hS dL_law_803 (fun x139 => ?_)
                              refine z_aload_n 3 rfl rfl dL_law_804 ?_
                              refine z_cW (st := []) [.ref l1, .int x138, .int x139, .ref l3] zkw_RL_135 rfl (Nat.le_of_ble_eq_true rfl) dL_law_805 (mL_at hV (d + 59) l1 x138 x139 l3 h) (fun v140 h141 => ?_)
                              refine z_vi (fun x142 => ?_)
                              refine z_istore (lv' := [(5, .int x142), (0, .float (UInt32.ofNat 400)), (1, .ref l1), (2, .ref l2), (3, .ref l3), (4, .int l4)]) (by decide) rfl dL_law_808 ?_
                              refine z_aload_n 3 rfl rfl dL_law_810 ?_
                              refine z_sload_n 1 rfl rfl dL_law_811 ?_
                              refine z_iload 5 rfl dL_law_812 ?_
                              refine z_iconst (v := 1) (by decide) dL_law_814 ?_
                              refine z_iadd dL_law_815 ?_
                              refine z_xI hS dL_law_816 (fun x143 => ?_)
                              refine z_sload_n 1 rfl rfl dL_law_817 ?_
                              refine z_iload 5 rfl dL_law_818 ?_
                              refine z_iconst (v := 2) (by decide) dL_law_820 ?_
                              refine z_iadd dL_law_821 ?_
                              refine z_xI hS dL_law_822 (fun x144 => ?_)
                              refine z_cV (st := []) [.int x143, .int x144] zk_RL_137 rfl (Nat.le_of_ble_eq_true rfl) dL_law_823 (mX7_at hV (d + 61) l2 x143 x144 h141) (fun v145 h146 => ?_)
                              refine z_vi (fun x147 => ?_)
                              refine z_istore (lv' := [(6, .int x147), (5, .int x142), (0, .float (UInt32.ofNat 400)), (1, .ref l1), (2, .ref l2), (3, .ref l3), (4, .int l4)]) (by decide) rfl dL_law_826 ?_
                              refine z_aload_n 4 rfl rfl dL_law_828 ?_
                              refine z_cV (st := []) [] zk_RL_100 rfl (Nat.le_of_ble_eq_true rfl) dL_law_829 (mX7_thrown hV (d + 66) l2 h146) (fun v148 h149 => ?_)
                              refine z_vi (fun x150 => ?_)
                              refine z_iload 1 rfl dL_law_832 ?_
                              refine z_icmp_eq 839 (by decide) dL_law_834 ?_ ?_
                              · refine z_iload 1 rfl dL_law_839 ?_
                                refine z_if_ne 856 (by decide) dL_law_841 ?_ ?_
                                · refine z_aload_n 5 rfl rfl dL_law_844 ?_
                                  refine z_iconst (v := 0) (by decide) dL_law_845 ?_
                                  refine z_aJ dL_law_846 (fun x151 => ?_)
                                  refine z_iload 0 rfl dL_law_847 ?_
                                  refine z_i2l dL_law_849 ?_
                                  refine z_lcmp dL_law_850 ?_
                                  refine z_if_eq 856 (by decide) dL_law_851 ?_ ?_
                                  · refine z_goto 1688 (by decide) dL_law_856 ?_
                                    refine z_inc (w := 6) (lv' := [(4, .int (l4 + 6)), (6, .int x147), (5, .int x142), (0, .float (UInt32.ofNat 400)), (1, .ref l1), (2, .ref l2), (3, .ref l3)]) 6 rfl (by decide) (by decide) rfl dL_law_1688 ?_
                                    refine z_goto 23 (by decide) dL_law_1691 ?_
                                    exact z_sub [3, 4, 5, 6, 0] rfl (ih l1 l2 l3 (l4 + 6) h149)
                                  · refine z_iconst (v := 0) (by decide) dL_law_854 ?_
                                    exact z_zret rfl dL_law_855
                                · refine z_goto 1688 (by decide) dL_law_856 ?_
                                  refine z_inc (w := 6) (lv' := [(4, .int (l4 + 6)), (6, .int x147), (5, .int x142), (0, .float (UInt32.ofNat 400)), (1, .ref l1), (2, .ref l2), (3, .ref l3)]) 6 rfl (by decide) (by decide) rfl dL_law_1688 ?_
                                  refine z_goto 23 (by decide) dL_law_1691 ?_
                                  exact z_sub [3, 4, 5, 6, 0] rfl (ih l1 l2 l3 (l4 + 6) h149)
                              · refine z_iconst (v := 0) (by decide) dL_law_837 ?_
                                exact z_zret rfl dL_law_838
                            · refine z_if (fun q12 => ?_) (fun q12 => ?_)
                              · refine z_tabIn q12 859 (by decide) (by decide) rfl (by decide) dL_law_40 ?_
                                refine z_aload_n 1 rfl rfl dL_law_859 ?_
                                refine z_sload_n 0 rfl rfl dL_law_860 ?_
                                refine z_iload 4 rfl dL_law_861 ?_
                                refine z_iconst (v := 1) (by decide) dL_law_863 ?_
                                refine z_iadd dL_law_864 ?_
                                refine z_xI hS dL_law_865 (fun x152 => ?_)
                                refine z_sload_n 0 rfl rfl dL_law_866 ?_
                                refine z_iload 4 rfl dL_law_867 ?_
                                refine z_iconst (v := 2) (by decide) dL_law_869 ?_
                                refine z_iadd dL_law_870 ?_
                                refine z_xI hS dL_law_871 (fun x153 => ?_)
                                refine z_aload_n 3 rfl rfl dL_law_872 ?_
                                refine z_cW (st := []) [.ref l1, .int x152, .int x153, .ref l3] zkw_RL_138 rfl (Nat.le_of_ble_eq_true rfl) dL_law_873 (mL_coefficient hV (d + 59) l1 x152 x153 l3 h) (fun v154 h155 => ?_)
                                refine z_vi (fun x156 => ?_)
                                refine z_istore (lv' := [(5, .int x156), (0, .float (UInt32.ofNat 400)), (1, .ref l1), (2, .ref l2), (3, .ref l3), (4, .int l4)]) (by decide) rfl dL_law_876 ?_
                                refine z_aload_n 3 rfl rfl dL_law_878 ?_
                                refine z_sload_n 1 rfl rfl dL_law_879 ?_
                                refine z_iload 5 rfl dL_law_880 ?_
                                refine z_iconst (v := 1) (by decide) dL_law_882 ?_
                                refine z_iadd dL_law_883 ?_
                                refine z_xI hS dL_law_884 (fun x157 => ?_)
                                refine z_sload_n 1 rfl rfl dL_law_885 ?_
                                refine z_iload 5 rfl dL_law_886 ?_
                                refine z_iconst (v := 2) (by decide) dL_law_888 ?_
                                refine z_iadd dL_law_889 ?_
                                refine z_xI hS dL_law_890 (fun x158 => ?_)
                                refine z_cV (st := []) [.int x157, .int x158] zk_RL_140 rfl (Nat.le_of_ble_eq_true rfl) dL_law_891 (mX7_coefficient hV (d + 61) l2 x157 x158 h155) (fun v159 h160 => ?_)
                                refine z_vi (fun x161 => ?_)
                                refine z_istore (lv' := [(6, .int x161), (5, .int x156), (0, .float (UInt32.ofNat 400)), (1, .ref l1), (2, .ref l2), (3, .ref l3), (4, .int l4)]) (by decide) rfl dL_law_894 ?_
                                refine z_aload_n 4 rfl rfl dL_law_896 ?_
                                refine z_cV (st := []) [] zk_RL_100 rfl (Nat.le_of_ble_eq_true rfl) dL_law_897 (mX7_thrown hV (d + 66) l2 h160) (fun v162 h163 => ?_)
                                refine z_vi (fun x164 => ?_)
                                refine z_iload 1 rfl dL_law_900 ?_
                                refine z_icmp_eq 907 (by decide) dL_law_902 ?_ ?_
                                · refine z_iload 1 rfl dL_law_907 ?_
                                  refine z_if_ne 924 (by decide) dL_law_909 ?_ ?_
                                  · refine z_aload_n 5 rfl rfl dL_law_912 ?_
                                    refine z_iconst (v := 0) (by decide) dL_law_913 ?_
                                    refine z_aJ dL_law_914 (fun x165 => ?_)
                                    refine z_iload 0 rfl dL_law_915 ?_
                                    refine z_i2l dL_law_917 ?_
                                    refine z_lcmp dL_law_918 ?_
                                    refine z_if_eq 924 (by decide) dL_law_919 ?_ ?_
                                    · refine z_goto 1688 (by decide) dL_law_924 ?_
                                      refine z_inc (w := 6) (lv' := [(4, .int (l4 + 6)), (6, .int x161), (5, .int x156), (0, .float (UInt32.ofNat 400)), (1, .ref l1), (2, .ref l2), (3, .ref l3)]) 6 rfl (by decide) (by decide) rfl dL_law_1688 ?_
                                      refine z_goto 23 (by decide) dL_law_1691 ?_
                                      exact z_sub [3, 4, 5, 6, 0] rfl (ih l1 l2 l3 (l4 + 6) h163)
                                    · refine z_iconst (v := 0) (by decide) dL_law_922 ?_
                                      exact z_zret rfl dL_law_923
                                  · refine z_goto 1688 (by decide) dL_law_924 ?_
                                    refine z_inc (w := 6) (lv' := [(4, .int (l4 + 6)), (6, .int x161), (5, .int x156), (0, .float (UInt32.ofNat 400)), (1, .ref l1), (2, .ref l2), (3, .ref l3)]) 6 rfl (by decide) (by decide) rfl dL_law_1688 ?_
                                    refine z_goto 23 (by decide) dL_law_1691 ?_
                                    exact z_sub [3, 4, 5, 6, 0] rfl (ih l1 l2 l3 (l4 + 6) h163)
                                · refine z_iconst (v := 0) (by decide) dL_law_905 ?_
                                  exact z_zret rfl dL_law_906
                              · refine z_if (fun q13 => ?_) (fun q13 => ?_)
                                · refine z_tabIn q13 927 (by decide) (by decide) rfl (by decide) dL_law_40 ?_
                                  refine z_aload_n 1 rfl rfl dL_law_927 ?_
                                  refine z_sload_n 0 rfl rfl dL_law_928 ?_
                                  refine z_iload 4 rfl dL_law_929 ?_
                                  refine z_iconst (v := 1) (by decide) dL_law_931 ?_
                                  refine z_iadd dL_law_932 ?_
                                  refine z_xI hS dL_law_933 (fun x166 => ?_)
                                  refine z_aload_n 3 rfl rfl dL_law_934 ?_
                                  refine z_cW (st := []) [.ref l1, .int x166, .ref l3] zkw_RL_141 rfl (Nat.le_of_ble_eq_true rfl) dL_law_935 (mL_degree hV (d + 59) l1 x166 l3 h) (fun v167 h168 => ?_)
                                  refine z_vi (fun x169 => ?_)
                                  refine z_istore (lv' := [(5, .int x169), (0, .float (UInt32.ofNat 400)), (1, .ref l1), (2, .ref l2), (3, .ref l3), (4, .int l4)]) (by decide) rfl dL_law_938 ?_
                                  refine z_aload_n 3 rfl rfl dL_law_940 ?_
                                  refine z_sload_n 1 rfl rfl dL_law_941 ?_
                                  refine z_iload 5 rfl dL_law_942 ?_
                                  refine z_iconst (v := 1) (by decide) dL_law_944 ?_
                                  refine z_iadd dL_law_945 ?_
                                  refine z_xI hS dL_law_946 (fun x170 => ?_)
                                  refine z_cV (st := []) [.int x170] zk_RL_143 rfl (Nat.le_of_ble_eq_true rfl) dL_law_947 (mX7_degree hV (d + 61) l2 x170 h168) (fun v171 h172 => ?_)
                                  refine z_vi (fun x173 => ?_)
                                  refine z_istore (lv' := [(6, .int x173), (5, .int x169), (0, .float (UInt32.ofNat 400)), (1, .ref l1), (2, .ref l2), (3, .ref l3), (4, .int l4)]) (by decide) rfl dL_law_950 ?_
                                  refine z_aload_n 4 rfl rfl dL_law_952 ?_
                                  refine z_cV (st := []) [] zk_RL_100 rfl (Nat.le_of_ble_eq_true rfl) dL_law_953 (mX7_thrown hV (d + 66) l2 h172) (fun v174 h175 => ?_)
                                  refine z_vi (fun x176 => ?_)
                                  refine z_iload 1 rfl dL_law_956 ?_
                                  refine z_icmp_eq 963 (by decide) dL_law_958 ?_ ?_
                                  · refine z_iload 1 rfl dL_law_963 ?_
                                    refine z_if_ne 980 (by decide) dL_law_965 ?_ ?_
                                    · refine z_aload_n 5 rfl rfl dL_law_968 ?_
                                      refine z_iconst (v := 0) (by decide) dL_law_969 ?_
                                      refine z_aJ dL_law_970 (fun x177 => ?_)
                                      refine z_iload 0 rfl dL_law_971 ?_
                                      refine z_i2l dL_law_973 ?_
                                      refine z_lcmp dL_law_974 ?_
                                      refine z_if_eq 980 (by decide) dL_law_975 ?_ ?_
                                      · refine z_goto 1688 (by decide) dL_law_980 ?_
                                        refine z_inc (w := 6) (lv' := [(4, .int (l4 + 6)), (6, .int x173), (5, .int x169), (0, .float (UInt32.ofNat 400)), (1, .ref l1), (2, .ref l2), (3, .ref l3)]) 6 rfl (by decide) (by decide) rfl dL_law_1688 ?_
                                        refine z_goto 23 (by decide) dL_law_1691 ?_
                                        exact z_sub [3, 4, 5, 6, 0] rfl (ih l1 l2 l3 (l4 + 6) h175)
                                      · refine z_iconst (v := 0) (by decide) dL_law_978 ?_
                                        exact z_zret rfl dL_law_979
                                    · refine z_goto 1688 (by decide) dL_law_980 ?_
                                      refine z_inc (w := 6) (lv' := [(4, .int (l4 + 6)), (6, .int x173), (5, .int x169), (0, .float (UInt32.ofNat 400)), (1, .ref l1), (2, .ref l2), (3, .ref l3)]) 6 rfl (by decide) (by decide) rfl dL_law_1688 ?_
                                      refine z_goto 23 (by decide) dL_law_1691 ?_
                                      exact z_sub [3, 4, 5, 6, 0] rfl (ih l1 l2 l3 (l4 + 6) h175)
                                  · refine z_iconst (v := 0) (by decide) dL_law_961 ?_
                                    exact z_zret rfl dL_law_962
                                · refine z_if (fun q14 => ?_) (fun q14 => ?_)
                                  · refine z_tabIn q14 983 (by decide) (by decide) rfl (by decide) dL_law_40 ?_
                                    refine z_aload_n 1 rfl rfl dL_law_983 ?_
                                    refine z_sload_n 0 rfl rfl dL_law_984 ?_
                                    refine z_iload 4 rfl dL_law_985 ?_
                                    refine z_iconst (v := 1) (by decide) dL_law_987 ?_
                                    refine z_iadd dL_law_988 ?_
                                    refine z_xI hS dL_law_989 (fun x178 => ?_)
                                    refine z_sload_n 0 rfl rfl dL_law_990 ?_
                                    refine z_iload 4 rfl dL_law_991 ?_
                                    refine z_iconst (v := 2) (by decide) dL_law_993 ?_
                                    refine z_iadd dL_law_994 ?_
                                    refine z_xI hS dL_law_995 (fun x179 => ?_)
                                    refine z_aload_n 3 rfl rfl dL_law_996 ?_
                                    refine z_cW (st := []) [.ref l1, .int x178, .int x179, .ref l3] zkw_RL_144 rfl (Nat.le_of_ble_eq_true rfl) dL_law_997 (mL_taken hV (d + 59) l1 x178 x179 l3 h) (fun v180 h181 => ?_)
                                    refine z_vi (fun x182 => ?_)
                                    refine z_istore (lv' := [(5, .int x182), (0, .float (UInt32.ofNat 400)), (1, .ref l1), (2, .ref l2), (3, .ref l3), (4, .int l4)]) (by decide) rfl dL_law_1000 ?_
                                    refine z_aload_n 3 rfl rfl dL_law_1002 ?_
                                    refine z_sload_n 1 rfl rfl dL_law_1003 ?_
                                    refine z_iload 5 rfl dL_law_1004 ?_
                                    refine z_iconst (v := 1) (by decide) dL_law_1006 ?_
                                    refine z_iadd dL_law_1007 ?_
                                    refine z_xI hS dL_law_1008 (fun x183 => ?_)
                                    refine z_sload_n 1 rfl rfl dL_law_1009 ?_
                                    refine z_iload 5 rfl dL_law_1010 ?_
                                    refine z_iconst (v := 2) (by decide) dL_law_1012 ?_
                                    refine z_iadd dL_law_1013 ?_
                                    refine z_xI hS dL_law_1014 (fun x184 => ?_)
                                    refine z_cV (st := []) [.int x183, .int x184] zk_RL_146 rfl (Nat.le_of_ble_eq_true rfl) dL_law_1015 (mX7_taken hV (d + 61) l2 x183 x184 h181) (fun v185 h186 => ?_)
                                    refine z_vi (fun x187 => ?_)
                                    refine z_istore (lv' := [(6, .int x187), (5, .int x182), (0, .float (UInt32.ofNat 400)), (1, .ref l1), (2, .ref l2), (3, .ref l3), (4, .int l4)]) (by decide) rfl dL_law_1018 ?_
                                    refine z_aload_n 4 rfl rfl dL_law_1020 ?_
                                    refine z_cV (st := []) [] zk_RL_100 rfl (Nat.le_of_ble_eq_true rfl) dL_law_1021 (mX7_thrown hV (d + 66) l2 h186) (fun v188 h189 => ?_)
                                    refine z_vi (fun x190 => ?_)
                                    refine z_iload 1 rfl dL_law_1024 ?_
                                    refine z_icmp_eq 1031 (by decide) dL_law_1026 ?_ ?_
                                    · refine z_iload 1 rfl dL_law_1031 ?_
                                      refine z_if_ne 1048 (by decide) dL_law_1033 ?_ ?_
                                      · refine z_aload_n 5 rfl rfl dL_law_1036 ?_
                                        refine z_iconst (v := 0) (by decide) dL_law_1037 ?_
                                        refine z_aJ dL_law_1038 (fun x191 => ?_)
                                        refine z_iload 0 rfl dL_law_1039 ?_
                                        refine z_i2l dL_law_1041 ?_
                                        refine z_lcmp dL_law_1042 ?_
                                        refine z_if_eq 1048 (by decide) dL_law_1043 ?_ ?_
                                        · refine z_goto 1688 (by decide) dL_law_1048 ?_
                                          refine z_inc (w := 6) (lv' := [(4, .int (l4 + 6)), (6, .int x187), (5, .int x182), (0, .float (UInt32.ofNat 400)), (1, .ref l1), (2, .ref l2), (3, .ref l3)]) 6 rfl (by decide) (by decide) rfl dL_law_1688 ?_
                                          refine z_goto 23 (by decide) dL_law_1691 ?_
                                          exact z_sub [3, 4, 5, 6, 0] rfl (ih l1 l2 l3 (l4 + 6) h189)
                                        · refine z_iconst (v := 0) (by decide) dL_law_1046 ?_
                                          exact z_zret rfl dL_law_1047
                                      · refine z_goto 1688 (by decide) dL_law_1048 ?_
                                        refine z_inc (w := 6) (lv' := [(4, .int (l4 + 6)), (6, .int x187), (5, .int x182), (0, .float (UInt32.ofNat 400)), (1, .ref l1), (2, .ref l2), (3, .ref l3)]) 6 rfl (by decide) (by decide) rfl dL_law_1688 ?_
                                        refine z_goto 23 (by decide) dL_law_1691 ?_
                                        exact z_sub [3, 4, 5, 6, 0] rfl (ih l1 l2 l3 (l4 + 6) h189)
                                    · refine z_iconst (v := 0) (by decide) dL_law_1029 ?_
                                      exact z_zret rfl dL_law_1030
                                  · refine z_if (fun q15 => ?_) (fun q15 => ?_)
                                    · refine z_tabIn q15 1051 (by decide) (by decide) rfl (by decide) dL_law_40 ?_
                                      refine z_aload_n 1 rfl rfl dL_law_1051 ?_
                                      refine z_sload_n 0 rfl rfl dL_law_1052 ?_
                                      refine z_iload 4 rfl dL_law_1053 ?_
                                      refine z_iconst (v := 1) (by decide) dL_law_1055 ?_
                                      refine z_iadd dL_law_1056 ?_
                                      refine z_xI hS dL_law_1057 (fun x192 => ?_)
                                      refine z_aload_n 3 rfl rfl dL_law_1058 ?_
                                      refine z_cW (st := []) [.ref l1, .int x192, .ref l3] zkw_RL_147 rfl (Nat.le_of_ble_eq_true rfl) dL_law_1059 (mL_image hV (d + 59) l1 x192 l3 h) (fun v193 h194 => ?_)
                                      refine z_vi (fun x195 => ?_)
                                      refine z_istore (lv' := [(5, .int x195), (0, .float (UInt32.ofNat 400)), (1, .ref l1), (2, .ref l2), (3, .ref l3), (4, .int l4)]) (by decide) rfl dL_law_1062 ?_
                                      refine z_aload_n 3 rfl rfl dL_law_1064 ?_
                                      refine z_sload_n 1 rfl rfl dL_law_1065 ?_
                                      refine z_iload 5 rfl dL_law_1066 ?_
                                      refine z_iconst (v := 1) (by decide) dL_law_1068 ?_
                                      refine z_iadd dL_law_1069 ?_
                                      refine z_xI hS dL_law_1070 (fun x196 => ?_)
                                      refine z_cV (st := []) [.int x196] zk_RL_149 rfl (Nat.le_of_ble_eq_true rfl) dL_law_1071 (mX7_image hV (d + 61) l2 x196 h194) (fun v197 h198 => ?_)
                                      refine z_vi (fun x199 => ?_)
                                      refine z_istore (lv' := [(6, .int x199), (5, .int x195), (0, .float (UInt32.ofNat 400)), (1, .ref l1), (2, .ref l2), (3, .ref l3), (4, .int l4)]) (by decide) rfl dL_law_1074 ?_
                                      refine z_aload_n 4 rfl rfl dL_law_1076 ?_
                                      refine z_cV (st := []) [] zk_RL_100 rfl (Nat.le_of_ble_eq_true rfl) dL_law_1077 (mX7_thrown hV (d + 66) l2 h198) (fun v200 h201 => ?_)
                                      refine z_vi (fun x202 => ?_)
                                      refine z_iload 1 rfl dL_law_1080 ?_
                                      refine z_icmp_eq 1087 (by decide) dL_law_1082 ?_ ?_
                                      · refine z_iload 1 rfl dL_law_1087 ?_
                                        refine z_if_ne 1104 (by decide) dL_law_1089 ?_ ?_
                                        · refine z_aload_n 5 rfl rfl dL_law_1092 ?_
                                          refine z_iconst (v := 0) (by decide) dL_law_1093 ?_
                                          refine z_aJ dL_law_1094 (fun x203 => ?_)
                                          refine z_iload 0 rfl dL_law_1095 ?_
                                          refine z_i2l dL_law_1097 ?_
                                          refine z_lcmp dL_law_1098 ?_
                                          refine z_if_eq 1104 (by decide) dL_law_1099 ?_ ?_
                                          · refine z_goto 1688 (by decide) dL_law_1104 ?_
                                            refine z_inc (w := 6) (lv' := [(4, .int (l4 + 6)), (6, .int x199), (5, .int x195), (0, .float (UInt32.ofNat 400)), (1, .ref l1), (2, .ref l2), (3, .ref l3)]) 6 rfl (by decide) (by decide) rfl dL_law_1688 ?_
                                            refine z_goto 23 (by decide) dL_law_1691 ?_
                                            exact z_sub [3, 4, 5, 6, 0] rfl (ih l1 l2 l3 (l4 + 6) h201)
                                          · refine z_iconst (v := 0) (by decide) dL_law_1102 ?_
                                            exact z_zret rfl dL_law_1103
                                        · refine z_goto 1688 (by decide) dL_law_1104 ?_
                                          refine z_inc (w := 6) (lv' := [(4, .int (l4 + 6)), (6, .int x199), (5, .int x195), (0, .float (UInt32.ofNat 400)), (1, .ref l1), (2, .ref l2), (3, .ref l3)]) 6 rfl (by decide) (by decide) rfl dL_law_1688 ?_
                                          refine z_goto 23 (by decide) dL_law_1691 ?_
                                          exact z_sub [3, 4, 5, 6, 0] rfl (ih l1 l2 l3 (l4 + 6) h201)
                                      · refine z_iconst (v := 0) (by decide) dL_law_1085 ?_
                                        exact z_zret rfl dL_law_1086
                                    · refine z_if (fun q16 => ?_) (fun q16 => ?_)
                                      · refine z_tabIn q16 1107 (by decide) (by decide) rfl (by decide) dL_law_40 ?_
                                        refine z_aload_n 1 rfl rfl dL_law_1107 ?_
                                        refine z_sload_n 0 rfl rfl dL_law_1108 ?_
                                        refine z_iload 4 rfl dL_law_1109 ?_
                                        refine z_iconst (v := 1) (by decide) dL_law_1111 ?_
                                        refine z_iadd dL_law_1112 ?_
                                        refine z_xI hS dL_law_1113 (fun x204 => ?_)
                                        refine z_aload_n 3 rfl rfl dL_law_1114 ?_
                                        refine z_cW (st := []) [.ref l1, .int x204, .ref l3] zkw_RL_150 rfl (Nat.le_of_ble_eq_true rfl) dL_law_1115 (mL_permutes hV (d + 59) l1 x204 l3 h) (fun v205 h206 => ?_)
                                        refine z_vi (fun x207 => ?_)
                                        refine z_istore (lv' := [(5, .int x207), (0, .float (UInt32.ofNat 400)), (1, .ref l1), (2, .ref l2), (3, .ref l3), (4, .int l4)]) (by decide) rfl dL_law_1118 ?_
                                        refine z_aload_n 3 rfl rfl dL_law_1120 ?_
                                        refine z_sload_n 1 rfl rfl dL_law_1121 ?_
                                        refine z_iload 5 rfl dL_law_1122 ?_
                                        refine z_iconst (v := 1) (by decide) dL_law_1124 ?_
                                        refine z_iadd dL_law_1125 ?_
                                        refine z_xI hS dL_law_1126 (fun x208 => ?_)
                                        refine z_cV (st := []) [.int x208] zk_RL_152 rfl (Nat.le_of_ble_eq_true rfl) dL_law_1127 (mX7_permutes hV (d + 61) l2 x208 h206) (fun v209 h210 => ?_)
                                        refine z_vi (fun x211 => ?_)
                                        refine z_istore (lv' := [(6, .int x211), (5, .int x207), (0, .float (UInt32.ofNat 400)), (1, .ref l1), (2, .ref l2), (3, .ref l3), (4, .int l4)]) (by decide) rfl dL_law_1130 ?_
                                        refine z_aload_n 4 rfl rfl dL_law_1132 ?_
                                        refine z_cV (st := []) [] zk_RL_100 rfl (Nat.le_of_ble_eq_true rfl) dL_law_1133 (mX7_thrown hV (d + 66) l2 h210) (fun v212 h213 => ?_)
                                        refine z_vi (fun x214 => ?_)
                                        refine z_iload 1 rfl dL_law_1136 ?_
                                        refine z_icmp_eq 1143 (by decide) dL_law_1138 ?_ ?_
                                        · refine z_iload 1 rfl dL_law_1143 ?_
                                          refine z_if_ne 1160 (by decide) dL_law_1145 ?_ ?_
                                          · refine z_aload_n 5 rfl rfl dL_law_1148 ?_
                                            refine z_iconst (v := 0) (by decide) dL_law_1149 ?_
                                            refine z_aJ dL_law_1150 (fun x215 => ?_)
                                            refine z_iload 0 rfl dL_law_1151 ?_
                                            refine z_i2l dL_law_1153 ?_
                                            refine z_lcmp dL_law_1154 ?_
                                            refine z_if_eq 1160 (by decide) dL_law_1155 ?_ ?_
                                            · refine z_goto 1688 (by decide) dL_law_1160 ?_
                                              refine z_inc (w := 6) (lv' := [(4, .int (l4 + 6)), (6, .int x211), (5, .int x207), (0, .float (UInt32.ofNat 400)), (1, .ref l1), (2, .ref l2), (3, .ref l3)]) 6 rfl (by decide) (by decide) rfl dL_law_1688 ?_
                                              refine z_goto 23 (by decide) dL_law_1691 ?_
                                              exact z_sub [3, 4, 5, 6, 0] rfl (ih l1 l2 l3 (l4 + 6) h213)
                                            · refine z_iconst (v := 0) (by decide) dL_law_1158 ?_
                                              exact z_zret rfl dL_law_1159
                                          · refine z_goto 1688 (by decide) dL_law_1160 ?_
                                            refine z_inc (w := 6) (lv' := [(4, .int (l4 + 6)), (6, .int x211), (5, .int x207), (0, .float (UInt32.ofNat 400)), (1, .ref l1), (2, .ref l2), (3, .ref l3)]) 6 rfl (by decide) (by decide) rfl dL_law_1688 ?_
                                            refine z_goto 23 (by decide) dL_law_1691 ?_
                                            exact z_sub [3, 4, 5, 6, 0] rfl (ih l1 l2 l3 (l4 + 6) h213)
                                        · refine z_iconst (v := 0) (by decide) dL_law_1141 ?_
                                          exact z_zret rfl dL_law_1142
                                      · refine z_if (fun q17 => ?_) (fun q17 => ?_)
                                        · refine z_tabIn q17 1163 (by decide) (by decide) rfl (by decide) dL_law_40 ?_
                                          refine z_aload_n 1 rfl rfl dL_law_1163 ?_
                                          refine z_sload_n 0 rfl rfl dL_law_1164 ?_
                                          refine z_iload 4 rfl dL_law_1165 ?_
                                          refine z_iconst (v := 1) (by decide) dL_law_1167 ?_
                                          refine z_iadd dL_law_1168 ?_
                                          refine z_xI hS dL_law_1169 (fun x216 => ?_)
                                          refine z_aload_n 3 rfl rfl dL_law_1170 ?_
                                          refine z_cW (st := []) [.ref l1, .int x216, .ref l3] zkw_RL_153 rfl (Nat.le_of_ble_eq_true rfl) dL_law_1171 (mL_powers hV (d + 59) l1 x216 l3 h) (fun v217 h218 => ?_)
                                          refine z_vi (fun x219 => ?_)
                                          refine z_istore (lv' := [(5, .int x219), (0, .float (UInt32.ofNat 400)), (1, .ref l1), (2, .ref l2), (3, .ref l3), (4, .int l4)]) (by decide) rfl dL_law_1174 ?_
                                          refine z_aload_n 3 rfl rfl dL_law_1176 ?_
                                          refine z_sload_n 1 rfl rfl dL_law_1177 ?_
                                          refine z_iload 5 rfl dL_law_1178 ?_
                                          refine z_iconst (v := 1) (by decide) dL_law_1180 ?_
                                          refine z_iadd dL_law_1181 ?_
                                          refine z_xI hS dL_law_1182 (fun x220 => ?_)
                                          refine z_cV (st := []) [.int x220] zk_RL_155 rfl (Nat.le_of_ble_eq_true rfl) dL_law_1183 (mX7_powers hV (d + 61) l2 x220 h218) (fun v221 h222 => ?_)
                                          refine z_vi (fun x223 => ?_)
                                          refine z_istore (lv' := [(6, .int x223), (5, .int x219), (0, .float (UInt32.ofNat 400)), (1, .ref l1), (2, .ref l2), (3, .ref l3), (4, .int l4)]) (by decide) rfl dL_law_1186 ?_
                                          refine z_aload_n 4 rfl rfl dL_law_1188 ?_
                                          refine z_cV (st := []) [] zk_RL_100 rfl (Nat.le_of_ble_eq_true rfl) dL_law_1189 (mX7_thrown hV (d + 66) l2 h222) (fun v224 h225 => ?_)
                                          refine z_vi (fun x226 => ?_)
                                          refine z_iload 1 rfl dL_law_1192 ?_
                                          refine z_icmp_eq 1199 (by decide) dL_law_1194 ?_ ?_
                                          · refine z_iload 1 rfl dL_law_1199 ?_
                                            refine z_if_ne 1216 (by decide) dL_law_1201 ?_ ?_
                                            · refine z_aload_n 5 rfl rfl dL_law_1204 ?_
                                              refine z_iconst (v := 0) (by decide) dL_law_1205 ?_
                                              refine z_aJ dL_law_1206 (fun x227 => ?_)
                                              refine z_iload 0 rfl dL_law_1207 ?_
                                              refine z_i2l dL_law_1209 ?_
                                              refine z_lcmp dL_law_1210 ?_
                                              refine z_if_eq 1216 (by decide) dL_law_1211 ?_ ?_
                                              · refine z_goto 1688 (by decide) dL_law_1216 ?_
                                                refine z_inc (w := 6) (lv' := [(4, .int (l4 + 6)), (6, .int x223), (5, .int x219), (0, .float (UInt32.ofNat 400)), (1, .ref l1), (2, .ref l2), (3, .ref l3)]) 6 rfl (by decide) (by decide) rfl dL_law_1688 ?_
                                                refine z_goto 23 (by decide) dL_law_1691 ?_
                                                exact z_sub [3, 4, 5, 6, 0] rfl (ih l1 l2 l3 (l4 + 6) h225)
                                              · refine z_iconst (v := 0) (by decide) dL_law_1214 ?_
                                                exact z_zret rfl dL_law_1215
                                            · refine z_goto 1688 (by decide) dL_law_1216 ?_
                                              refine z_inc (w := 6) (lv' := [(4, .int (l4 + 6)), (6, .int x223), (5, .int x219), (0, .float (UInt32.ofNat 400)), (1, .ref l1), (2, .ref l2), (3, .ref l3)]) 6 rfl (by decide) (by decide) rfl dL_law_1688 ?_
                                              refine z_goto 23 (by decide) dL_law_1691 ?_
                                              exact z_sub [3, 4, 5, 6, 0] rfl (ih l1 l2 l3 (l4 + 6) h225)
                                          · refine z_iconst (v := 0) (by decide) dL_law_1197 ?_
                                            exact z_zret rfl dL_law_1198
                                        · refine z_if (fun q18 => ?_) (fun q18 => ?_)
                                          · refine z_tabIn q18 1219 (by decide) (by decide) rfl (by decide) dL_law_40 ?_
                                            refine z_aload_n 1 rfl rfl dL_law_1219 ?_
                                            refine z_sload_n 0 rfl rfl dL_law_1220 ?_
                                            refine z_iload 4 rfl dL_law_1221 ?_
                                            refine z_iconst (v := 1) (by decide) dL_law_1223 ?_
                                            refine z_iadd dL_law_1224 ?_
                                            refine z_xI hS dL_law_1225 (fun x228 => ?_)
                                            refine z_sload_n 0 rfl rfl dL_law_1226 ?_
                                            refine z_iload 4 rfl dL_law_1227 ?_
                                            refine z_iconst (v := 2) (by decide) dL_law_1229 ?_
                                            refine z_iadd dL_law_1230 ?_
                                            refine z_xI hS dL_law_1231 (fun x229 => ?_)
                                            refine z_aload_n 3 rfl rfl dL_law_1232 ?_
                                            refine z_cW (st := []) [.ref l1, .int x228, .int x229, .ref l3] zkw_RL_156 rfl (Nat.le_of_ble_eq_true rfl) dL_law_1233 (mL_cycles hV (d + 59) l1 x228 x229 l3 h) (fun v230 h231 => ?_)
                                            refine z_vi (fun x232 => ?_)
                                            refine z_istore (lv' := [(5, .int x232), (0, .float (UInt32.ofNat 400)), (1, .ref l1), (2, .ref l2), (3, .ref l3), (4, .int l4)]) (by decide) rfl dL_law_1236 ?_
                                            refine z_aload_n 3 rfl rfl dL_law_1238 ?_
                                            refine z_sload_n 1 rfl rfl dL_law_1239 ?_
                                            refine z_iload 5 rfl dL_law_1240 ?_
                                            refine z_iconst (v := 1) (by decide) dL_law_1242 ?_
                                            refine z_iadd dL_law_1243 ?_
                                            refine z_xI hS dL_law_1244 (fun x233 => ?_)
                                            refine z_sload_n 1 rfl rfl dL_law_1245 ?_
                                            refine z_iload 5 rfl dL_law_1246 ?_
                                            refine z_iconst (v := 2) (by decide) dL_law_1248 ?_
                                            refine z_iadd dL_law_1249 ?_
                                            refine z_xI hS dL_law_1250 (fun x234 => ?_)
                                            refine z_cV (st := []) [.int x233, .int x234] zk_RL_158 rfl (Nat.le_of_ble_eq_true rfl) dL_law_1251 (mX7_cycles hV (d + 61) l2 x233 x234 h231) (fun v235 h236 => ?_)
                                            refine z_vi (fun x237 => ?_)
                                            refine z_istore (lv' := [(6, .int x237), (5, .int x232), (0, .float (UInt32.ofNat 400)), (1, .ref l1), (2, .ref l2), (3, .ref l3), (4, .int l4)]) (by decide) rfl dL_law_1254 ?_
                                            refine z_aload_n 4 rfl rfl dL_law_1256 ?_
                                            refine z_cV (st := []) [] zk_RL_100 rfl (Nat.le_of_ble_eq_true rfl) dL_law_1257 (mX7_thrown hV (d + 66) l2 h236) (fun v238 h239 => ?_)
                                            refine z_vi (fun x240 => ?_)
                                            refine z_iload 1 rfl dL_law_1260 ?_
                                            refine z_icmp_eq 1267 (by decide) dL_law_1262 ?_ ?_
                                            · refine z_iload 1 rfl dL_law_1267 ?_
                                              refine z_if_ne 1284 (by decide) dL_law_1269 ?_ ?_
                                              · refine z_aload_n 5 rfl rfl dL_law_1272 ?_
                                                refine z_iconst (v := 0) (by decide) dL_law_1273 ?_
                                                refine z_aJ dL_law_1274 (fun x241 => ?_)
                                                refine z_iload 0 rfl dL_law_1275 ?_
                                                refine z_i2l dL_law_1277 ?_
                                                refine z_lcmp dL_law_1278 ?_
                                                refine z_if_eq 1284 (by decide) dL_law_1279 ?_ ?_
                                                · refine z_goto 1688 (by decide) dL_law_1284 ?_
                                                  refine z_inc (w := 6) (lv' := [(4, .int (l4 + 6)), (6, .int x237), (5, .int x232), (0, .float (UInt32.ofNat 400)), (1, .ref l1), (2, .ref l2), (3, .ref l3)]) 6 rfl (by decide) (by decide) rfl dL_law_1688 ?_
                                                  refine z_goto 23 (by decide) dL_law_1691 ?_
                                                  exact z_sub [3, 4, 5, 6, 0] rfl (ih l1 l2 l3 (l4 + 6) h239)
                                                · refine z_iconst (v := 0) (by decide) dL_law_1282 ?_
                                                  exact z_zret rfl dL_law_1283
                                              · refine z_goto 1688 (by decide) dL_law_1284 ?_
                                                refine z_inc (w := 6) (lv' := [(4, .int (l4 + 6)), (6, .int x237), (5, .int x232), (0, .float (UInt32.ofNat 400)), (1, .ref l1), (2, .ref l2), (3, .ref l3)]) 6 rfl (by decide) (by decide) rfl dL_law_1688 ?_
                                                refine z_goto 23 (by decide) dL_law_1691 ?_
                                                exact z_sub [3, 4, 5, 6, 0] rfl (ih l1 l2 l3 (l4 + 6) h239)
                                            · refine z_iconst (v := 0) (by decide) dL_law_1265 ?_
                                              exact z_zret rfl dL_law_1266
                                          · refine z_if (fun q19 => ?_) (fun q19 => ?_)
                                            · refine z_tabIn q19 1287 (by decide) (by decide) rfl (by decide) dL_law_40 ?_
                                              refine z_aload_n 1 rfl rfl dL_law_1287 ?_
                                              refine z_sload_n 0 rfl rfl dL_law_1288 ?_
                                              refine z_iload 4 rfl dL_law_1289 ?_
                                              refine z_iconst (v := 1) (by decide) dL_law_1291 ?_
                                              refine z_iadd dL_law_1292 ?_
                                              refine z_xI hS dL_law_1293 (fun x242 => ?_)
                                              refine z_aload_n 3 rfl rfl dL_law_1294 ?_
                                              refine z_cW (st := []) [.ref l1, .int x242, .ref l3] zkw_RL_159 rfl (Nat.le_of_ble_eq_true rfl) dL_law_1295 (mL_order hV (d + 59) l1 x242 l3 h) (fun v243 h244 => ?_)
                                              refine z_vi (fun x245 => ?_)
                                              refine z_istore (lv' := [(5, .int x245), (0, .float (UInt32.ofNat 400)), (1, .ref l1), (2, .ref l2), (3, .ref l3), (4, .int l4)]) (by decide) rfl dL_law_1298 ?_
                                              refine z_aload_n 3 rfl rfl dL_law_1300 ?_
                                              refine z_sload_n 1 rfl rfl dL_law_1301 ?_
                                              refine z_iload 5 rfl dL_law_1302 ?_
                                              refine z_iconst (v := 1) (by decide) dL_law_1304 ?_
                                              refine z_iadd dL_law_1305 ?_
                                              refine z_xI hS dL_law_1306 (fun x246 => ?_)
                                              refine z_cV (st := []) [.int x246] zk_RL_161 rfl (Nat.le_of_ble_eq_true rfl) dL_law_1307 (mX7_order hV (d + 61) l2 x246 h244) (fun v247 h248 => ?_)
                                              refine z_vi (fun x249 => ?_)
                                              refine z_istore (lv' := [(6, .int x249), (5, .int x245), (0, .float (UInt32.ofNat 400)), (1, .ref l1), (2, .ref l2), (3, .ref l3), (4, .int l4)]) (by decide) rfl dL_law_1310 ?_
                                              refine z_aload_n 4 rfl rfl dL_law_1312 ?_
                                              refine z_cV (st := []) [] zk_RL_100 rfl (Nat.le_of_ble_eq_true rfl) dL_law_1313 (mX7_thrown hV (d + 66) l2 h248) (fun v250 h251 => ?_)
                                              refine z_vi (fun x252 => ?_)
                                              refine z_iload 1 rfl dL_law_1316 ?_
                                              refine z_icmp_eq 1323 (by decide) dL_law_1318 ?_ ?_
                                              · refine z_iload 1 rfl dL_law_1323 ?_
                                                refine z_if_ne 1340 (by decide) dL_law_1325 ?_ ?_
                                                · refine z_aload_n 5 rfl rfl dL_law_1328 ?_
                                                  refine z_iconst (v := 0) (by decide) dL_law_1329 ?_
                                                  refine z_aJ dL_law_1330 (fun x253 => ?_)
                                                  refine z_iload 0 rfl dL_law_1331 ?_
                                                  refine z_i2l dL_law_1333 ?_
                                                  refine z_lcmp dL_law_1334 ?_
                                                  refine z_if_eq 1340 (by decide) dL_law_1335 ?_ ?_
                                                  · refine z_goto 1688 (by decide) dL_law_1340 ?_
                                                    refine z_inc (w := 6) (lv' := [(4, .int (l4 + 6)), (6, .int x249), (5, .int x245), (0, .float (UInt32.ofNat 400)), (1, .ref l1), (2, .ref l2), (3, .ref l3)]) 6 rfl (by decide) (by decide) rfl dL_law_1688 ?_
                                                    refine z_goto 23 (by decide) dL_law_1691 ?_
                                                    exact z_sub [3, 4, 5, 6, 0] rfl (ih l1 l2 l3 (l4 + 6) h251)
                                                  · refine z_iconst (v := 0) (by decide) dL_law_1338 ?_
                                                    exact z_zret rfl dL_law_1339
                                                · refine z_goto 1688 (by decide) dL_law_1340 ?_
                                                  refine z_inc (w := 6) (lv' := [(4, .int (l4 + 6)), (6, .int x249), (5, .int x245), (0, .float (UInt32.ofNat 400)), (1, .ref l1), (2, .ref l2), (3, .ref l3)]) 6 rfl (by decide) (by decide) rfl dL_law_1688 ?_
                                                  refine z_goto 23 (by decide) dL_law_1691 ?_
                                                  exact z_sub [3, 4, 5, 6, 0] rfl (ih l1 l2 l3 (l4 + 6) h251)
                                              · refine z_iconst (v := 0) (by decide) dL_law_1321 ?_
                                                exact z_zret rfl dL_law_1322
                                            · refine z_if (fun q20 => ?_) (fun q20 => ?_)
                                              · refine z_tabIn q20 1343 (by decide) (by decide) rfl (by decide) dL_law_40 ?_
                                                refine z_aload_n 1 rfl rfl dL_law_1343 ?_
                                                refine z_sload_n 0 rfl rfl dL_law_1344 ?_
                                                refine z_iload 4 rfl dL_law_1345 ?_
                                                refine z_iconst (v := 1) (by decide) dL_law_1347 ?_
                                                refine z_iadd dL_law_1348 ?_
                                                refine z_xI hS dL_law_1349 (fun x254 => ?_)
                                                refine z_aload_n 3 rfl rfl dL_law_1350 ?_
                                                refine z_cW (st := []) [.ref l1, .int x254, .ref l3] zkw_RL_162 rfl (Nat.le_of_ble_eq_true rfl) dL_law_1351 (mL_even hV (d + 59) l1 x254 l3 h) (fun v255 h256 => ?_)
                                                refine z_vi (fun x257 => ?_)
                                                refine z_istore (lv' := [(5, .int x257), (0, .float (UInt32.ofNat 400)), (1, .ref l1), (2, .ref l2), (3, .ref l3), (4, .int l4)]) (by decide) rfl dL_law_1354 ?_
                                                refine z_aload_n 3 rfl rfl dL_law_1356 ?_
                                                refine z_sload_n 1 rfl rfl dL_law_1357 ?_
                                                refine z_iload 5 rfl dL_law_1358 ?_
                                                refine z_iconst (v := 1) (by decide) dL_law_1360 ?_
                                                refine z_iadd dL_law_1361 ?_
                                                refine z_xI hS dL_law_1362 (fun x258 => ?_)
                                                refine z_cV (st := []) [.int x258] zk_RL_164 rfl (Nat.le_of_ble_eq_true rfl) dL_law_1363 (mX7_even hV (d + 61) l2 x258 h256) (fun v259 h260 => ?_)
                                                refine z_vi (fun x261 => ?_)
                                                refine z_istore (lv' := [(6, .int x261), (5, .int x257), (0, .float (UInt32.ofNat 400)), (1, .ref l1), (2, .ref l2), (3, .ref l3), (4, .int l4)]) (by decide) rfl dL_law_1366 ?_
                                                refine z_aload_n 4 rfl rfl dL_law_1368 ?_
                                                refine z_cV (st := []) [] zk_RL_100 rfl (Nat.le_of_ble_eq_true rfl) dL_law_1369 (mX7_thrown hV (d + 66) l2 h260) (fun v262 h263 => ?_)
                                                refine z_vi (fun x264 => ?_)
                                                refine z_iload 1 rfl dL_law_1372 ?_
                                                refine z_icmp_eq 1379 (by decide) dL_law_1374 ?_ ?_
                                                · refine z_iload 1 rfl dL_law_1379 ?_
                                                  refine z_if_ne 1396 (by decide) dL_law_1381 ?_ ?_
                                                  · refine z_aload_n 5 rfl rfl dL_law_1384 ?_
                                                    refine z_iconst (v := 0) (by decide) dL_law_1385 ?_
                                                    refine z_aJ dL_law_1386 (fun x265 => ?_)
                                                    refine z_iload 0 rfl dL_law_1387 ?_
                                                    refine z_i2l dL_law_1389 ?_
                                                    refine z_lcmp dL_law_1390 ?_
                                                    refine z_if_eq 1396 (by decide) dL_law_1391 ?_ ?_
                                                    · refine z_goto 1688 (by decide) dL_law_1396 ?_
                                                      refine z_inc (w := 6) (lv' := [(4, .int (l4 + 6)), (6, .int x261), (5, .int x257), (0, .float (UInt32.ofNat 400)), (1, .ref l1), (2, .ref l2), (3, .ref l3)]) 6 rfl (by decide) (by decide) rfl dL_law_1688 ?_
                                                      refine z_goto 23 (by decide) dL_law_1691 ?_
                                                      exact z_sub [3, 4, 5, 6, 0] rfl (ih l1 l2 l3 (l4 + 6) h263)
                                                    · refine z_iconst (v := 0) (by decide) dL_law_1394 ?_
                                                      exact z_zret rfl dL_law_1395
                                                  · refine z_goto 1688 (by decide) dL_law_1396 ?_
                                                    refine z_inc (w := 6) (lv' := [(4, .int (l4 + 6)), (6, .int x261), (5, .int x257), (0, .float (UInt32.ofNat 400)), (1, .ref l1), (2, .ref l2), (3, .ref l3)]) 6 rfl (by decide) (by decide) rfl dL_law_1688 ?_
                                                    refine z_goto 23 (by decide) dL_law_1691 ?_
                                                    exact z_sub [3, 4, 5, 6, 0] rfl (ih l1 l2 l3 (l4 + 6) h263)
                                                · refine z_iconst (v := 0) (by decide) dL_law_1377 ?_
                                                  exact z_zret rfl dL_law_1378
                                              · refine z_if (fun q21 => ?_) (fun q21 => ?_)
                                                · refine z_tabIn q21 1399 (by decide) (by decide) rfl (by decide) dL_law_40 ?_
                                                  refine z_aload_n 1 rfl rfl dL_law_1399 ?_
                                                  refine z_sload_n 0 rfl rfl dL_law_1400 ?_
                                                  refine z_iload 4 rfl dL_law_1401 ?_
                                                  refine z_iconst (v := 1) (by decide) dL_law_1403 ?_
                                                  refine z_iadd dL_law_1404 ?_
                                                  refine z_xI hS dL_law_1405 (fun x266 => ?_)
                                                  refine z_aload_n 3 rfl rfl dL_law_1406 ?_
                                                  refine z_cW (st := []) [.ref l1, .int x266, .ref l3] zkw_RL_165 rfl (Nat.le_of_ble_eq_true rfl) dL_law_1407 (mL_orbit hV (d + 59) l1 x266 l3 h) (fun v267 h268 => ?_)
                                                  refine z_vi (fun x269 => ?_)
                                                  refine z_istore (lv' := [(5, .int x269), (0, .float (UInt32.ofNat 400)), (1, .ref l1), (2, .ref l2), (3, .ref l3), (4, .int l4)]) (by decide) rfl dL_law_1410 ?_
                                                  refine z_aload_n 3 rfl rfl dL_law_1412 ?_
                                                  refine z_sload_n 1 rfl rfl dL_law_1413 ?_
                                                  refine z_iload 5 rfl dL_law_1414 ?_
                                                  refine z_iconst (v := 1) (by decide) dL_law_1416 ?_
                                                  refine z_iadd dL_law_1417 ?_
                                                  refine z_xI hS dL_law_1418 (fun x270 => ?_)
                                                  refine z_cV (st := []) [.int x270] zk_RL_167 rfl (Nat.le_of_ble_eq_true rfl) dL_law_1419 (mX7_orbit hV (d + 61) l2 x270 h268) (fun v271 h272 => ?_)
                                                  refine z_vi (fun x273 => ?_)
                                                  refine z_istore (lv' := [(6, .int x273), (5, .int x269), (0, .float (UInt32.ofNat 400)), (1, .ref l1), (2, .ref l2), (3, .ref l3), (4, .int l4)]) (by decide) rfl dL_law_1422 ?_
                                                  refine z_aload_n 4 rfl rfl dL_law_1424 ?_
                                                  refine z_cV (st := []) [] zk_RL_100 rfl (Nat.le_of_ble_eq_true rfl) dL_law_1425 (mX7_thrown hV (d + 66) l2 h272) (fun v274 h275 => ?_)
                                                  refine z_vi (fun x276 => ?_)
                                                  refine z_iload 1 rfl dL_law_1428 ?_
                                                  refine z_icmp_eq 1435 (by decide) dL_law_1430 ?_ ?_
                                                  · refine z_iload 1 rfl dL_law_1435 ?_
                                                    refine z_if_ne 1452 (by decide) dL_law_1437 ?_ ?_
                                                    · refine z_aload_n 5 rfl rfl dL_law_1440 ?_
                                                      refine z_iconst (v := 0) (by decide) dL_law_1441 ?_
                                                      refine z_aJ dL_law_1442 (fun x277 => ?_)
                                                      refine z_iload 0 rfl dL_law_1443 ?_
                                                      refine z_i2l dL_law_1445 ?_
                                                      refine z_lcmp dL_law_1446 ?_
                                                      refine z_if_eq 1452 (by decide) dL_law_1447 ?_ ?_
                                                      · refine z_goto 1688 (by decide) dL_law_1452 ?_
                                                        refine z_inc (w := 6) (lv' := [(4, .int (l4 + 6)), (6, .int x273), (5, .int x269), (0, .float (UInt32.ofNat 400)), (1, .ref l1), (2, .ref l2), (3, .ref l3)]) 6 rfl (by decide) (by decide) rfl dL_law_1688 ?_
                                                        refine z_goto 23 (by decide) dL_law_1691 ?_
                                                        exact z_sub [3, 4, 5, 6, 0] rfl (ih l1 l2 l3 (l4 + 6) h275)
                                                      · refine z_iconst (v := 0) (by decide) dL_law_1450 ?_
                                                        exact z_zret rfl dL_law_1451
                                                    · refine z_goto 1688 (by decide) dL_law_1452 ?_
                                                      refine z_inc (w := 6) (lv' := [(4, .int (l4 + 6)), (6, .int x273), (5, .int x269), (0, .float (UInt32.ofNat 400)), (1, .ref l1), (2, .ref l2), (3, .ref l3)]) 6 rfl (by decide) (by decide) rfl dL_law_1688 ?_
                                                      refine z_goto 23 (by decide) dL_law_1691 ?_
                                                      exact z_sub [3, 4, 5, 6, 0] rfl (ih l1 l2 l3 (l4 + 6) h275)
                                                  · refine z_iconst (v := 0) (by decide) dL_law_1433 ?_
                                                    exact z_zret rfl dL_law_1434
                                                · refine z_if (fun q22 => ?_) (fun q22 => ?_)
                                                  · refine z_tabIn q22 1455 (by decide) (by decide) rfl (by decide) dL_law_40 ?_
                                                    refine z_aload_n 1 rfl rfl dL_law_1455 ?_
                                                    refine z_cV (st := []) [] zk_RL_168 rfl (Nat.le_of_ble_eq_true rfl) dL_law_1456 (mX6_orbits hV (d + 62) l1 h) (fun v278 h279 => ?_)
                                                    refine z_vi (fun x280 => ?_)
                                                    refine z_aload_n 2 rfl rfl dL_law_1459 ?_
                                                    refine z_cV (st := [.int x280]) [] zk_RL_171 rfl (Nat.le_of_ble_eq_true rfl) dL_law_1460 (mX7_orbits hV (d + 61) l2 h279) (fun v281 h282 => ?_)
                                                    refine z_vi (fun x283 => ?_)
                                                    refine z_icmp_eq 1688 (by decide) dL_law_1463 ?_ ?_
                                                    · refine z_inc (w := 6) (lv' := [(4, .int (l4 + 6)), (0, .float (UInt32.ofNat 400)), (1, .ref l1), (2, .ref l2), (3, .ref l3)]) 4 rfl (by decide) (by decide) rfl dL_law_1688 ?_
                                                      refine z_goto 23 (by decide) dL_law_1691 ?_
                                                      exact z_sub [1, 2, 3, 4, 0] rfl (ih l1 l2 l3 (l4 + 6) h282)
                                                    · refine z_iconst (v := 0) (by decide) dL_law_1466 ?_
                                                      exact z_zret rfl dL_law_1467
                                                  · refine z_if (fun q23 => ?_) (fun q23 => ?_)
                                                    · refine z_tabIn q23 1468 (by decide) (by decide) rfl (by decide) dL_law_40 ?_
                                                      refine z_aload_n 1 rfl rfl dL_law_1468 ?_
                                                      refine z_sload_n 0 rfl rfl dL_law_1469 ?_
                                                      refine z_iload 4 rfl dL_law_1470 ?_
                                                      refine z_iconst (v := 1) (by decide) dL_law_1472 ?_
                                                      refine z_iadd dL_law_1473 ?_
                                                      refine z_xI hS dL_law_1474 (fun x284 => ?_)
                                                      refine z_aload_n 3 rfl rfl dL_law_1475 ?_
                                                      refine z_cW (st := []) [.ref l1, .int x284, .ref l3] zkw_RL_172 rfl (Nat.le_of_ble_eq_true rfl) dL_law_1476 (mL_spread hV (d + 59) l1 x284 l3 h) (fun v285 h286 => ?_)
                                                      refine z_vi (fun x287 => ?_)
                                                      refine z_istore (lv' := [(5, .int x287), (0, .float (UInt32.ofNat 400)), (1, .ref l1), (2, .ref l2), (3, .ref l3), (4, .int l4)]) (by decide) rfl dL_law_1479 ?_
                                                      refine z_aload_n 3 rfl rfl dL_law_1481 ?_
                                                      refine z_sload_n 1 rfl rfl dL_law_1482 ?_
                                                      refine z_iload 5 rfl dL_law_1483 ?_
                                                      refine z_iconst (v := 1) (by decide) dL_law_1485 ?_
                                                      refine z_iadd dL_law_1486 ?_
                                                      refine z_xI hS dL_law_1487 (fun x288 => ?_)
                                                      refine z_cV (st := []) [.int x288] zk_RL_174 rfl (Nat.le_of_ble_eq_true rfl) dL_law_1488 (mX7_spread hV (d + 61) l2 x288 h286) (fun v289 h290 => ?_)
                                                      refine z_vi (fun x291 => ?_)
                                                      refine z_istore (lv' := [(6, .int x291), (5, .int x287), (0, .float (UInt32.ofNat 400)), (1, .ref l1), (2, .ref l2), (3, .ref l3), (4, .int l4)]) (by decide) rfl dL_law_1491 ?_
                                                      refine z_aload_n 4 rfl rfl dL_law_1493 ?_
                                                      refine z_cV (st := []) [] zk_RL_100 rfl (Nat.le_of_ble_eq_true rfl) dL_law_1494 (mX7_thrown hV (d + 66) l2 h290) (fun v292 h293 => ?_)
                                                      refine z_vi (fun x294 => ?_)
                                                      refine z_iload 1 rfl dL_law_1497 ?_
                                                      refine z_icmp_eq 1504 (by decide) dL_law_1499 ?_ ?_
                                                      · refine z_iload 1 rfl dL_law_1504 ?_
                                                        refine z_if_ne 1521 (by decide) dL_law_1506 ?_ ?_
                                                        · refine z_aload_n 5 rfl rfl dL_law_1509 ?_
                                                          refine z_iconst (v := 0) (by decide) dL_law_1510 ?_
                                                          refine z_aJ dL_law_1511 (fun x295 => ?_)
                                                          refine z_iload 0 rfl dL_law_1512 ?_
                                                          refine z_i2l dL_law_1514 ?_
                                                          refine z_lcmp dL_law_1515 ?_
                                                          refine z_if_eq 1521 (by decide) dL_law_1516 ?_ ?_
                                                          · refine z_goto 1688 (by decide) dL_law_1521 ?_
                                                            refine z_inc (w := 6) (lv' := [(4, .int (l4 + 6)), (6, .int x291), (5, .int x287), (0, .float (UInt32.ofNat 400)), (1, .ref l1), (2, .ref l2), (3, .ref l3)]) 6 rfl (by decide) (by decide) rfl dL_law_1688 ?_
                                                            refine z_goto 23 (by decide) dL_law_1691 ?_
                                                            exact z_sub [3, 4, 5, 6, 0] rfl (ih l1 l2 l3 (l4 + 6) h293)
                                                          · refine z_iconst (v := 0) (by decide) dL_law_1519 ?_
                                                            exact z_zret rfl dL_law_1520
                                                        · refine z_goto 1688 (by decide) dL_law_1521 ?_
                                                          refine z_inc (w := 6) (lv' := [(4, .int (l4 + 6)), (6, .int x291), (5, .int x287), (0, .float (UInt32.ofNat 400)), (1, .ref l1), (2, .ref l2), (3, .ref l3)]) 6 rfl (by decide) (by decide) rfl dL_law_1688 ?_
                                                          refine z_goto 23 (by decide) dL_law_1691 ?_
                                                          exact z_sub [3, 4, 5, 6, 0] rfl (ih l1 l2 l3 (l4 + 6) h293)
                                                      · refine z_iconst (v := 0) (by decide) dL_law_1502 ?_
                                                        exact z_zret rfl dL_law_1503
                                                    · refine z_if (fun q24 => ?_) (fun q24 => ?_)
                                                      · refine z_tabIn q24 1524 (by decide) (by decide) rfl (by decide) dL_law_40 ?_
                                                        refine z_aload_n 1 rfl rfl dL_law_1524 ?_
                                                        refine z_cV (st := []) [] zk_RL_175 rfl (Nat.le_of_ble_eq_true rfl) dL_law_1525 (mX6_monomials hV (d + 62) l1 h) (fun v296 h297 => ?_)
                                                        refine z_vj (fun x298 => ?_)
                                                        refine z_aload_n 2 rfl rfl dL_law_1528 ?_
                                                        refine z_cV (st := [.long x298]) [] zk_RL_179 rfl (Nat.le_of_ble_eq_true rfl) dL_law_1529 (mX7_monomials hV (d + 61) l2 h297) (fun v299 h300 => ?_)
                                                        refine z_vj (fun x301 => ?_)
                                                        refine z_lcmp dL_law_1532 ?_
                                                        refine z_if_eq 1688 (by decide) dL_law_1533 ?_ ?_
                                                        · refine z_inc (w := 6) (lv' := [(4, .int (l4 + 6)), (0, .float (UInt32.ofNat 400)), (1, .ref l1), (2, .ref l2), (3, .ref l3)]) 4 rfl (by decide) (by decide) rfl dL_law_1688 ?_
                                                          refine z_goto 23 (by decide) dL_law_1691 ?_
                                                          exact z_sub [1, 2, 3, 4, 0] rfl (ih l1 l2 l3 (l4 + 6) h300)
                                                        · refine z_iconst (v := 0) (by decide) dL_law_1536 ?_
                                                          exact z_zret rfl dL_law_1537
                                                      · refine z_if (fun q25 => ?_) (fun q25 => ?_)
                                                        · refine z_tabIn q25 1538 (by decide) (by decide) rfl (by decide) dL_law_40 ?_
                                                          refine z_aload_n 1 rfl rfl dL_law_1538 ?_
                                                          refine z_sload_n 0 rfl rfl dL_law_1539 ?_
                                                          refine z_iload 4 rfl dL_law_1540 ?_
                                                          refine z_iconst (v := 1) (by decide) dL_law_1542 ?_
                                                          refine z_iadd dL_law_1543 ?_
                                                          refine z_xI hS dL_law_1544 (fun x302 => ?_)
                                                          refine z_aload_n 3 rfl rfl dL_law_1545 ?_
                                                          refine z_cW (st := []) [.ref l1, .int x302, .ref l3] zkw_RL_180 rfl (Nat.le_of_ble_eq_true rfl) dL_law_1546 (mL_dicksons hV (d + 59) l1 x302 l3 h) (fun v303 h304 => ?_)
                                                          refine z_vi (fun x305 => ?_)
                                                          refine z_istore (lv' := [(5, .int x305), (0, .float (UInt32.ofNat 400)), (1, .ref l1), (2, .ref l2), (3, .ref l3), (4, .int l4)]) (by decide) rfl dL_law_1549 ?_
                                                          refine z_aload_n 3 rfl rfl dL_law_1551 ?_
                                                          refine z_sload_n 1 rfl rfl dL_law_1552 ?_
                                                          refine z_iload 5 rfl dL_law_1553 ?_
                                                          refine z_iconst (v := 1) (by decide) dL_law_1555 ?_
                                                          refine z_iadd dL_law_1556 ?_
                                                          refine z_xI hS dL_law_1557 (fun x306 => ?_)
                                                          refine z_cV (st := []) [.int x306] zk_RL_182 rfl (Nat.le_of_ble_eq_true rfl) dL_law_1558 (mX7_dicksons hV (d + 61) l2 x306 h304) (fun v307 h308 => ?_)
                                                          refine z_vj (fun x309 => ?_)
                                                          refine z_lstore (lv' := [(6, .long x309), (5, .int x305), (0, .float (UInt32.ofNat 400)), (1, .ref l1), (2, .ref l2), (3, .ref l3), (4, .int l4)]) (by decide) rfl dL_law_1561 ?_
                                                          refine z_aload_n 4 rfl rfl dL_law_1563 ?_
                                                          refine z_cV (st := []) [] zk_RL_100 rfl (Nat.le_of_ble_eq_true rfl) dL_law_1564 (mX7_thrown hV (d + 66) l2 h308) (fun v310 h311 => ?_)
                                                          refine z_vi (fun x312 => ?_)
                                                          refine z_iload 1 rfl dL_law_1567 ?_
                                                          refine z_icmp_eq 1574 (by decide) dL_law_1569 ?_ ?_
                                                          · refine z_iload 1 rfl dL_law_1574 ?_
                                                            refine z_if_ne 1590 (by decide) dL_law_1576 ?_ ?_
                                                            · refine z_aload_n 5 rfl rfl dL_law_1579 ?_
                                                              refine z_iconst (v := 0) (by decide) dL_law_1580 ?_
                                                              refine z_aJ dL_law_1581 (fun x313 => ?_)
                                                              refine z_lload 0 rfl dL_law_1582 ?_
                                                              refine z_lcmp dL_law_1584 ?_
                                                              refine z_if_eq 1590 (by decide) dL_law_1585 ?_ ?_
                                                              · refine z_goto 1688 (by decide) dL_law_1590 ?_
                                                                refine z_inc (w := 6) (lv' := [(4, .int (l4 + 6)), (6, .long x309), (5, .int x305), (0, .float (UInt32.ofNat 400)), (1, .ref l1), (2, .ref l2), (3, .ref l3)]) 6 rfl (by decide) (by decide) rfl dL_law_1688 ?_
                                                                refine z_goto 23 (by decide) dL_law_1691 ?_
                                                                exact z_sub [3, 4, 5, 6, 0] rfl (ih l1 l2 l3 (l4 + 6) h311)
                                                              · refine z_iconst (v := 0) (by decide) dL_law_1588 ?_
                                                                exact z_zret rfl dL_law_1589
                                                            · refine z_goto 1688 (by decide) dL_law_1590 ?_
                                                              refine z_inc (w := 6) (lv' := [(4, .int (l4 + 6)), (6, .long x309), (5, .int x305), (0, .float (UInt32.ofNat 400)), (1, .ref l1), (2, .ref l2), (3, .ref l3)]) 6 rfl (by decide) (by decide) rfl dL_law_1688 ?_
                                                              refine z_goto 23 (by decide) dL_law_1691 ?_
                                                              exact z_sub [3, 4, 5, 6, 0] rfl (ih l1 l2 l3 (l4 + 6) h311)
                                                          · refine z_iconst (v := 0) (by decide) dL_law_1572 ?_
                                                            exact z_zret rfl dL_law_1573
                                                        · refine z_if (fun q26 => ?_) (fun q26 => ?_)
                                                          · refine z_tabIn q26 1593 (by decide) (by decide) rfl (by decide) dL_law_40 ?_
                                                            refine z_aload_n 1 rfl rfl dL_law_1593 ?_
                                                            refine z_sload_n 0 rfl rfl dL_law_1594 ?_
                                                            refine z_iload 4 rfl dL_law_1595 ?_
                                                            refine z_iconst (v := 1) (by decide) dL_law_1597 ?_
                                                            refine z_iadd dL_law_1598 ?_
                                                            refine z_xI hS dL_law_1599 (fun x314 => ?_)
                                                            refine z_aload_n 3 rfl rfl dL_law_1600 ?_
                                                            refine z_cW (st := []) [.ref l1, .int x314, .ref l3] zkw_RL_183 rfl (Nat.le_of_ble_eq_true rfl) dL_law_1601 (mL_binomials hV (d + 59) l1 x314 l3 h) (fun v315 h316 => ?_)
                                                            refine z_vi (fun x317 => ?_)
                                                            refine z_istore (lv' := [(5, .int x317), (0, .float (UInt32.ofNat 400)), (1, .ref l1), (2, .ref l2), (3, .ref l3), (4, .int l4)]) (by decide) rfl dL_law_1604 ?_
                                                            refine z_aload_n 3 rfl rfl dL_law_1606 ?_
                                                            refine z_sload_n 1 rfl rfl dL_law_1607 ?_
                                                            refine z_iload 5 rfl dL_law_1608 ?_
                                                            refine z_iconst (v := 1) (by decide) dL_law_1610 ?_
                                                            refine z_iadd dL_law_1611 ?_
                                                            refine z_xI hS dL_law_1612 (fun x318 => ?_)
                                                            refine z_cV (st := []) [.int x318] zk_RL_185 rfl (Nat.le_of_ble_eq_true rfl) dL_law_1613 (mX7_binomials hV (d + 61) l2 x318 h316) (fun v319 h320 => ?_)
                                                            refine z_vi (fun x321 => ?_)
                                                            refine z_istore (lv' := [(6, .int x321), (5, .int x317), (0, .float (UInt32.ofNat 400)), (1, .ref l1), (2, .ref l2), (3, .ref l3), (4, .int l4)]) (by decide) rfl dL_law_1616 ?_
                                                            refine z_aload_n 4 rfl rfl dL_law_1618 ?_
                                                            refine z_cV (st := []) [] zk_RL_100 rfl (Nat.le_of_ble_eq_true rfl) dL_law_1619 (mX7_thrown hV (d + 66) l2 h320) (fun v322 h323 => ?_)
                                                            refine z_vi (fun x324 => ?_)
                                                            refine z_iload 1 rfl dL_law_1622 ?_
                                                            refine z_icmp_eq 1629 (by decide) dL_law_1624 ?_ ?_
                                                            · refine z_iload 1 rfl dL_law_1629 ?_
                                                              refine z_if_ne 1646 (by decide) dL_law_1631 ?_ ?_
                                                              · refine z_aload_n 5 rfl rfl dL_law_1634 ?_
                                                                refine z_iconst (v := 0) (by decide) dL_law_1635 ?_
                                                                refine z_aJ dL_law_1636 (fun x325 => ?_)
                                                                refine z_iload 0 rfl dL_law_1637 ?_
                                                                refine z_i2l dL_law_1639 ?_
                                                                refine z_lcmp dL_law_1640 ?_
                                                                refine z_if_eq 1646 (by decide) dL_law_1641 ?_ ?_
                                                                · refine z_goto 1688 (by decide) dL_law_1646 ?_
                                                                  refine z_inc (w := 6) (lv' := [(4, .int (l4 + 6)), (6, .int x321), (5, .int x317), (0, .float (UInt32.ofNat 400)), (1, .ref l1), (2, .ref l2), (3, .ref l3)]) 6 rfl (by decide) (by decide) rfl dL_law_1688 ?_
                                                                  refine z_goto 23 (by decide) dL_law_1691 ?_
                                                                  exact z_sub [3, 4, 5, 6, 0] rfl (ih l1 l2 l3 (l4 + 6) h323)
                                                                · refine z_iconst (v := 0) (by decide) dL_law_1644 ?_
                                                                  exact z_zret rfl dL_law_1645
                                                              · refine z_goto 1688 (by decide) dL_law_1646 ?_
                                                                refine z_inc (w := 6) (lv' := [(4, .int (l4 + 6)), (6, .int x321), (5, .int x317), (0, .float (UInt32.ofNat 400)), (1, .ref l1), (2, .ref l2), (3, .ref l3)]) 6 rfl (by decide) (by decide) rfl dL_law_1688 ?_
                                                                refine z_goto 23 (by decide) dL_law_1691 ?_
                                                                exact z_sub [3, 4, 5, 6, 0] rfl (ih l1 l2 l3 (l4 + 6) h323)
                                                            · refine z_iconst (v := 0) (by decide) dL_law_1627 ?_
                                                              exact z_zret rfl dL_law_1628
                                                          · refine z_if (fun q27 => ?_) (fun q27 => ?_)
                                                            · refine z_tabIn q27 1649 (by decide) (by decide) rfl (by decide) dL_law_40 ?_
                                                              refine z_aload_n 1 rfl rfl dL_law_1649 ?_
                                                              refine z_cV (st := []) [] zk_RL_186 rfl (Nat.le_of_ble_eq_true rfl) dL_law_1650 (mX6_print hV (d + 66) l1 h) (fun v326 h327 => ?_)
                                                              refine z_vj (fun x328 => ?_)
                                                              refine z_aload_n 2 rfl rfl dL_law_1653 ?_
                                                              refine z_cV (st := [.long x328]) [] zk_RL_189 rfl (Nat.le_of_ble_eq_true rfl) dL_law_1654 (mX7_print hV (d + 61) l2 h327) (fun v329 h330 => ?_)
                                                              refine z_vj (fun x331 => ?_)
                                                              refine z_lcmp dL_law_1657 ?_
                                                              refine z_if_eq 1688 (by decide) dL_law_1658 ?_ ?_
                                                              · refine z_inc (w := 6) (lv' := [(4, .int (l4 + 6)), (0, .float (UInt32.ofNat 400)), (1, .ref l1), (2, .ref l2), (3, .ref l3)]) 4 rfl (by decide) (by decide) rfl dL_law_1688 ?_
                                                                refine z_goto 23 (by decide) dL_law_1691 ?_
                                                                exact z_sub [1, 2, 3, 4, 0] rfl (ih l1 l2 l3 (l4 + 6) h330)
                                                              · refine z_iconst (v := 0) (by decide) dL_law_1661 ?_
                                                                exact z_zret rfl dL_law_1662
                                                            · refine z_if (fun q28 => ?_) (fun q28 => ?_)
                                                              · refine z_tabIn q28 1663 (by decide) (by decide) rfl (by decide) dL_law_40 ?_
                                                                refine z_aload_n 1 rfl rfl dL_law_1663 ?_
                                                                refine z_sload_n 0 rfl rfl dL_law_1664 ?_
                                                                refine z_iload 4 rfl dL_law_1665 ?_
                                                                refine z_iconst (v := 1) (by decide) dL_law_1667 ?_
                                                                refine z_iadd dL_law_1668 ?_
                                                                refine z_xI hS dL_law_1669 (fun x332 => ?_)
                                                                refine z_cV (st := []) [.int x332] zk_RL_190 rfl (Nat.le_of_ble_eq_true rfl) dL_law_1670 (mX6_status hV (d + 66) l1 x332 h) (fun v333 h334 => ?_)
                                                                refine z_vi (fun x335 => ?_)
                                                                refine z_aload_n 2 rfl rfl dL_law_1673 ?_
                                                                refine z_sload_n 0 rfl rfl dL_law_1674 ?_
                                                                refine z_iload 4 rfl dL_law_1675 ?_
                                                                refine z_iconst (v := 1) (by decide) dL_law_1677 ?_
                                                                refine z_iadd dL_law_1678 ?_
                                                                refine z_xI hS dL_law_1679 (fun x336 => ?_)
                                                                refine z_cV (st := [.int x335]) [.int x336] zk_RL_193 rfl (Nat.le_of_ble_eq_true rfl) dL_law_1680 (mX7_status hV (d + 65) l2 x336 h334) (fun v337 h338 => ?_)
                                                                refine z_vi (fun x339 => ?_)
                                                                refine z_icmp_eq 1688 (by decide) dL_law_1683 ?_ ?_
                                                                · refine z_inc (w := 6) (lv' := [(4, .int (l4 + 6)), (0, .float (UInt32.ofNat 400)), (1, .ref l1), (2, .ref l2), (3, .ref l3)]) 4 rfl (by decide) (by decide) rfl dL_law_1688 ?_
                                                                  refine z_goto 23 (by decide) dL_law_1691 ?_
                                                                  exact z_sub [1, 2, 3, 4, 0] rfl (ih l1 l2 l3 (l4 + 6) h338)
                                                                · refine z_iconst (v := 0) (by decide) dL_law_1686 ?_
                                                                  exact z_zret rfl dL_law_1687
                                                              · refine z_tabOut 1688 (by have := lv_neT q0 (show Int32.toInt 0 = 0 from rfl); have := lv_neT q1 (show Int32.toInt 1 = 1 from rfl); have := lv_neT q2 (show Int32.toInt 2 = 2 from rfl); have := lv_neT q3 (show Int32.toInt 3 = 3 from rfl); have := lv_neT q4 (show Int32.toInt 4 = 4 from rfl); have := lv_neT q5 (show Int32.toInt 5 = 5 from rfl); have := lv_neT q6 (show Int32.toInt 6 = 6 from rfl); have := lv_neT q7 (show Int32.toInt 7 = 7 from rfl); have := lv_neT q8 (show Int32.toInt 8 = 8 from rfl); have := lv_neT q9 (show Int32.toInt 9 = 9 from rfl); have := lv_neT q10 (show Int32.toInt 10 = 10 from rfl); have := lv_neT q11 (show Int32.toInt 11 = 11 from rfl); have := lv_neT q12 (show Int32.toInt 12 = 12 from rfl); have := lv_neT q13 (show Int32.toInt 13 = 13 from rfl); have := lv_neT q14 (show Int32.toInt 14 = 14 from rfl); have := lv_neT q15 (show Int32.toInt 15 = 15 from rfl); have := lv_neT q16 (show Int32.toInt 16 = 16 from rfl); have := lv_neT q17 (show Int32.toInt 17 = 17 from rfl); have := lv_neT q18 (show Int32.toInt 18 = 18 from rfl); have := lv_neT q19 (show Int32.toInt 19 = 19 from rfl); have := lv_neT q20 (show Int32.toInt 20 = 20 from rfl); have := lv_neT q21 (show Int32.toInt 21 = 21 from rfl); have := lv_neT q22 (show Int32.toInt 22 = 22 from rfl); have := lv_neT q23 (show Int32.toInt 23 = 23 from rfl); have := lv_neT q24 (show Int32.toInt 24 = 24 from rfl); have := lv_neT q25 (show Int32.toInt 25 = 25 from rfl); have := lv_neT q26 (show Int32.toInt 26 = 26 from rfl); have := lv_neT q27 (show Int32.toInt 27 = 27 from rfl); have := lv_neT q28 (show Int32.toInt 28 = 28 from rfl); omega) (by decide) dL_law_40 ?_
                                                                refine z_inc (w := 6) (lv' := [(4, .int (l4 + 6)), (0, .float (UInt32.ofNat 400)), (1, .ref l1), (2, .ref l2), (3, .ref l3)]) 4 rfl (by decide) (by decide) rfl dL_law_1688 ?_
                                                                refine z_goto 23 (by decide) dL_law_1691 ?_
                                                                exact z_sub [1, 2, 3, 4, 0] rfl (ih l1 l2 l3 (l4 + 6) h)
def fL_law (S : SC) (h : AH) : RR :=
  zb2 (znO h 6) fun b1 h2 =>
  zca (fX6_init b1 h2) fun v3 h4 =>
  zvn v3 <|
  zb2 (znO h4 7) fun b5 h6 =>
  zca (fX7_init b5 h6) fun v7 h8 =>
  zvn v7 <|
  zb2 (znJ h8 1) fun b9 h10 =>
  fL_law_23 S FU b1 b5 b9 0 h10
set_option maxRecDepth 20000 in
theorem mL_law {X : CT} {V : VT} {d n0 k0 : Nat} (hV : V.2.2.2.2.2.stackTraces = false) (S : SC) (hS : zSc X V S) (h : AH) : zG X V RL "law" cL_law 8 (some .boolean) (d + 68) n0 k0 (fL_law S h) 0 [(0, .float (UInt32.ofNat 400))] [] h := by
  unfold fL_law
  refine z_nO zn_RL_8 dL_law_0 (fun b1 h2 => ?_)
  refine z_dup rfl dL_law_3 ?_
  refine z_cI (st := [.ref b1]) [] zk_RL_85 rfl (Nat.le_of_ble_eq_true rfl) dL_law_4 (mX6_init hV (d + 62) b1 h2) (fun v3 h4 => ?_)
  refine z_vn ?_
  refine z_astore_n (lv' := [(1, .ref b1), (0, .float (UInt32.ofNat 400))]) rfl (by decide) rfl dL_law_7 ?_
  refine z_nO zn_RL_86 dL_law_8 (fun b5 h6 => ?_)
  refine z_dup rfl dL_law_11 ?_
  refine z_cI (st := [.ref b5]) [] zk_RL_88 rfl (Nat.le_of_ble_eq_true rfl) dL_law_12 (mX7_init hV (d + 66) b5 h6) (fun v7 h8 => ?_)
  refine z_vn ?_
  refine z_astore_n (lv' := [(2, .ref b5), (1, .ref b1), (0, .float (UInt32.ofNat 400))]) rfl (by decide) rfl dL_law_15 ?_
  refine z_iconst (v := 1) (by decide) dL_law_16 ?_
  refine z_nJ zw_1372 dL_law_17 (fun b9 h10 => ?_)
  refine z_astore_n (lv' := [(3, .ref b9), (2, .ref b5), (1, .ref b1), (0, .float (UInt32.ofNat 400))]) rfl (by decide) rfl dL_law_19 ?_
  refine z_iconst (v := 0) (by decide) dL_law_20 ?_
  refine z_istore (lv' := [(4, .int 0), (3, .ref b9), (2, .ref b5), (1, .ref b1), (0, .float (UInt32.ofNat 400))]) (by decide) rfl dL_law_21 ?_
  exact z_sub [4, 3, 2, 1, 0] rfl (rL_law_23 hV S hS FU b1 b5 b9 0 h10)
