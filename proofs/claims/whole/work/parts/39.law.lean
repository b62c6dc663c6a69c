/-! WideTurnLaw.law([I)Z -/
def b_L_law_1174 (F : Nat) (k18 : (Option Nat) → (Option Nat) → (Option Nat) → Int32 → MH → (Option (Int32 × MH))) : (Option Nat) → (Option Nat) → (Option Nat) → (Int32) → (MH) → (Option (Int32 × MH)) := fun v0 v1 v2 v3 h => 
  k18 v0 v1 v2 (v3 + (6 : Int32)) h
def b_L_law_18 (F : Nat) : Nat → (Option Nat) → (Option Nat) → (Option Nat) → (Int32) → (MH) → (Option (Int32 × MH))
  | 0 => fun _ _ _ _ _ => none
  | n + 1 => fun v0 v1 v2 v3 h => 
    Option.bind (alen h v0) fun x1 =>
    if (x1 - (6 : Int32)) < v3 then
      some ((1 : Int32), h)
    else
      Option.bind (ald h v0 0 v3) fun x4 =>
      if (x4 &&& (63 : Int32)) = (0 : Int32) then
        Option.bind (ald h v0 0 (v3 + (1 : Int32))) fun x7 =>
        Option.bind (ald h v0 0 (v3 + (2 : Int32))) fun x9 =>
        Option.bind (ald h v0 0 (v3 + (3 : Int32))) fun x11 =>
        Option.bind (onc h v1 10 (f_C_row F v1 x7 x9 x11 h)) fun x13 =>
        Option.bind (ald x13.2 v0 0 (v3 + (1 : Int32))) fun x15 =>
        Option.bind (ald x13.2 v0 0 (v3 + (2 : Int32))) fun x17 =>
        Option.bind (ald x13.2 v0 0 (v3 + (3 : Int32))) fun x19 =>
        Option.bind (onc x13.2 v2 11 (f_M_row F v2 x15 x17 x19 x13.2)) fun x21 =>
        if x13.1 = x21.1 then
          b_L_law_1174 F (b_L_law_18 F n) v0 v1 v2 v3 x21.2
        else
          some ((0 : Int32), x21.2)
      else
      if (x4 &&& (63 : Int32)) = (1 : Int32) then
        Option.bind (ald h v0 0 (v3 + (1 : Int32))) fun x25 =>
        Option.bind (ald h v0 0 (v3 + (2 : Int32))) fun x27 =>
        Option.bind (ald h v0 0 (v3 + (3 : Int32))) fun x29 =>
        Option.bind (onc h v1 10 (f_C_set v1 x25 x27 x29 h)) fun x31 =>
        Option.bind (ald x31.2 v0 0 (v3 + (1 : Int32))) fun x33 =>
        Option.bind (ald x31.2 v0 0 (v3 + (2 : Int32))) fun x35 =>
        Option.bind (ald x31.2 v0 0 (v3 + (3 : Int32))) fun x37 =>
        Option.bind (onc x31.2 v2 11 (f_M_set v2 x33 x35 x37 x31.2)) fun x39 =>
        if x31.1 = x39.1 then
          b_L_law_1174 F (b_L_law_18 F n) v0 v1 v2 v3 x39.2
        else
          some ((0 : Int32), x39.2)
      else
      if (x4 &&& (63 : Int32)) = (2 : Int32) then
        Option.bind (ald h v0 0 (v3 + (1 : Int32))) fun x43 =>
        Option.bind (ald h v0 0 (v3 + (2 : Int32))) fun x45 =>
        Option.bind (ald h v0 0 (v3 + (3 : Int32))) fun x47 =>
        Option.bind (ald h v0 0 (v3 + (4 : Int32))) fun x49 =>
        Option.bind (ald h v0 0 (v3 + (5 : Int32))) fun x51 =>
        Option.bind (onc h v1 10 (f_C_copy v1 x43 x45 x47 x49 x51 h)) fun x53 =>
        Option.bind (ald x53.2 v0 0 (v3 + (1 : Int32))) fun x55 =>
        Option.bind (ald x53.2 v0 0 (v3 + (2 : Int32))) fun x57 =>
        Option.bind (ald x53.2 v0 0 (v3 + (3 : Int32))) fun x59 =>
        Option.bind (ald x53.2 v0 0 (v3 + (4 : Int32))) fun x61 =>
        Option.bind (ald x53.2 v0 0 (v3 + (5 : Int32))) fun x63 =>
        Option.bind (onc x53.2 v2 11 (f_M_copy F v2 x55 x57 x59 x61 x63 x53.2)) fun x65 =>
        if x53.1 = x65.1 then
          b_L_law_1174 F (b_L_law_18 F n) v0 v1 v2 v3 x65.2
        else
          some ((0 : Int32), x65.2)
      else
      if (x4 &&& (63 : Int32)) = (3 : Int32) then
        Option.bind (ald h v0 0 (v3 + (1 : Int32))) fun x69 =>
        Option.bind (onc h v1 10 (f_C_drop v1 x69 h)) fun x71 =>
        Option.bind (ald x71.2 v0 0 (v3 + (1 : Int32))) fun x73 =>
        Option.bind (onc x71.2 v2 11 (f_M_drop v2 x73 x71.2)) fun x75 =>
        if x71.1 = x75.1 then
          b_L_law_1174 F (b_L_law_18 F n) v0 v1 v2 v3 x75.2
        else
          some ((0 : Int32), x75.2)
      else
      if (x4 &&& (63 : Int32)) = (4 : Int32) then
        Option.bind (ald h v0 0 (v3 + (1 : Int32))) fun x79 =>
        Option.bind (onc h v1 10 (f_C_feed v1 x79 h)) fun x81 =>
        Option.bind (ald x81.2 v0 0 (v3 + (1 : Int32))) fun x83 =>
        Option.bind (onc x81.2 v2 11 (f_M_feed v2 x83 x81.2)) fun x85 =>
        if x81.1 = x85.1 then
          b_L_law_1174 F (b_L_law_18 F n) v0 v1 v2 v3 x85.2
        else
          some ((0 : Int32), x85.2)
      else
      if (x4 &&& (63 : Int32)) = (5 : Int32) then
        Option.bind (onc h v1 10 (f_C_basin F v1 h)) fun x89 =>
        Option.bind (onc x89.2 v2 11 (f_M_basin F v2 x89.2)) fun x91 =>
        if x89.1 = x91.1 then
          b_L_law_1174 F (b_L_law_18 F n) v0 v1 v2 v3 x91.2
        else
          some ((0 : Int32), x91.2)
      else
      if (x4 &&& (63 : Int32)) = (6 : Int32) then
        Option.bind (onc h v1 10 (f_C_fault v1 h)) fun x95 =>
        Option.bind (onc h v2 11 (f_M_fault v2 h)) fun x97 =>
        if x95 = x97.1 then
          b_L_law_1174 F (b_L_law_18 F n) v0 v1 v2 v3 x97.2
        else
          some ((0 : Int32), x97.2)
      else
      if (x4 &&& (63 : Int32)) = (7 : Int32) then
        Option.bind (onc h v1 10 (f_C_undo F v1 h)) fun x101 =>
        Option.bind (onc x101.2 v2 11 (f_M_undo F v2 x101.2)) fun x103 =>
        if x101.1 = x103.1 then
          b_L_law_1174 F (b_L_law_18 F n) v0 v1 v2 v3 x103.2
        else
          some ((0 : Int32), x103.2)
      else
      if (x4 &&& (63 : Int32)) = (8 : Int32) then
        Option.bind (ald h v0 0 (v3 + (1 : Int32))) fun x107 =>
        Option.bind (ald h v0 0 (v3 + (2 : Int32))) fun x109 =>
        Option.bind (onc h v1 10 (f_C_move v1 x107 x109 h)) fun x111 =>
        Option.bind (ald x111.2 v0 0 (v3 + (1 : Int32))) fun x113 =>
        Option.bind (ald x111.2 v0 0 (v3 + (2 : Int32))) fun x115 =>
        Option.bind (onc x111.2 v2 11 (f_M_move F v2 x113 x115 x111.2)) fun x117 =>
        if x111.1 = x117.1 then
          b_L_law_1174 F (b_L_law_18 F n) v0 v1 v2 v3 x117.2
        else
          some ((0 : Int32), x117.2)
      else
      if (x4 &&& (63 : Int32)) = (9 : Int32) then
        Option.bind (ald h v0 0 (v3 + (1 : Int32))) fun x121 =>
        Option.bind (onc h v1 10 (f_C_laden v1 x121 h)) fun x123 =>
        Option.bind (ald x123.2 v0 0 (v3 + (1 : Int32))) fun x125 =>
        Option.bind (onc x123.2 v2 11 (f_M_laden F v2 x125 x123.2)) fun x127 =>
        if x123.1 = x127.1 then
          b_L_law_1174 F (b_L_law_18 F n) v0 v1 v2 v3 x127.2
        else
          some ((0 : Int32), x127.2)
      else
      if (x4 &&& (63 : Int32)) = (10 : Int32) then
        Option.bind (ald h v0 0 (v3 + (1 : Int32))) fun x131 =>
        Option.bind (ald h v0 0 (v3 + (2 : Int32))) fun x133 =>
        Option.bind (onc h v1 10 (f_C_moor v1 x131 x133 h)) fun x135 =>
        Option.bind (ald x135.2 v0 0 (v3 + (1 : Int32))) fun x137 =>
        Option.bind (ald x135.2 v0 0 (v3 + (2 : Int32))) fun x139 =>
        Option.bind (onc x135.2 v2 11 (f_M_moor F v2 x137 x139 x135.2)) fun x141 =>
        if x135.1 = x141.1 then
          b_L_law_1174 F (b_L_law_18 F n) v0 v1 v2 v3 x141.2
        else
          some ((0 : Int32), x141.2)
      else
      if (x4 &&& (63 : Int32)) = (11 : Int32) then
        Option.bind (onc h v1 10 (f_C_silt F v1 h)) fun x145 =>
        Option.bind (onc x145.2 v2 11 (f_M_silt F v2 x145.2)) fun x147 =>
        if x145.1 = x147.1 then
          b_L_law_1174 F (b_L_law_18 F n) v0 v1 v2 v3 x147.2
        else
          some ((0 : Int32), x147.2)
      else
      if (x4 &&& (63 : Int32)) = (12 : Int32) then
        Option.bind (ald h v0 0 (v3 + (1 : Int32))) fun x151 =>
        Option.bind (onc h v1 10 (f_C_boat v1 x151 h)) fun x153 =>
        Option.bind (ald h v0 0 (v3 + (1 : Int32))) fun x155 =>
        Option.bind (onc h v2 11 (f_M_boat F v2 x155 h)) fun x157 =>
        if x153 = x157.1 then
          b_L_law_1174 F (b_L_law_18 F n) v0 v1 v2 v3 x157.2
        else
          some ((0 : Int32), x157.2)
      else
      if (x4 &&& (63 : Int32)) = (13 : Int32) then
        Option.bind (ald h v0 0 (v3 + (1 : Int32))) fun x161 =>
        Option.bind (ald h v0 0 (v3 + (2 : Int32))) fun x163 =>
        Option.bind (onc h v1 10 (f_C_cell v1 x161 x163 h)) fun x165 =>
        Option.bind (ald h v0 0 (v3 + (1 : Int32))) fun x167 =>
        Option.bind (ald h v0 0 (v3 + (2 : Int32))) fun x169 =>
        Option.bind (onc h v2 11 (f_M_cell v2 x167 x169 h)) fun x171 =>
        if x165 = x171.1 then
          b_L_law_1174 F (b_L_law_18 F n) v0 v1 v2 v3 x171.2
        else
          some ((0 : Int32), x171.2)
      else
      if (x4 &&& (63 : Int32)) = (14 : Int32) then
        Option.bind (ald h v0 0 (v3 + (1 : Int32))) fun x175 =>
        Option.bind (ald h v0 0 (v3 + (2 : Int32))) fun x177 =>
        Option.bind (onc h v1 10 (f_C_hand v1 x175 x177 h)) fun x179 =>
        Option.bind (ald h v0 0 (v3 + (1 : Int32))) fun x181 =>
        Option.bind (ald h v0 0 (v3 + (2 : Int32))) fun x183 =>
        Option.bind (onc h v2 11 (f_M_hand v2 x181 x183 h)) fun x185 =>
        if x179 = x185.1 then
          b_L_law_1174 F (b_L_law_18 F n) v0 v1 v2 v3 x185.2
        else
          some ((0 : Int32), x185.2)
      else
      if (x4 &&& (63 : Int32)) = (15 : Int32) then
        Option.bind (ald h v0 0 (v3 + (1 : Int32))) fun x189 =>
        Option.bind (ald h v0 0 (v3 + (2 : Int32))) fun x191 =>
        Option.bind (ald h v0 0 (v3 + (3 : Int32))) fun x193 =>
        Option.bind (onc h v1 10 (f_C_way F v1 x189 x191 x193 h)) fun x195 =>
        Option.bind (ald x195.2 v0 0 (v3 + (1 : Int32))) fun x197 =>
        Option.bind (ald x195.2 v0 0 (v3 + (2 : Int32))) fun x199 =>
        Option.bind (ald x195.2 v0 0 (v3 + (3 : Int32))) fun x201 =>
        Option.bind (onc x195.2 v2 11 (f_M_way F v2 x197 x199 x201 x195.2)) fun x203 =>
        if x195.1 = x203.1 then
          b_L_law_1174 F (b_L_law_18 F n) v0 v1 v2 v3 x203.2
        else
          some ((0 : Int32), x203.2)
      else
      if (x4 &&& (63 : Int32)) = (16 : Int32) then
        Option.bind (ald h v0 0 (v3 + (1 : Int32))) fun x207 =>
        Option.bind (onc h v1 10 (f_C_turned F v1 x207 h)) fun x209 =>
        Option.bind (ald x209.2 v0 0 (v3 + (1 : Int32))) fun x211 =>
        Option.bind (onc x209.2 v2 11 (f_M_turned F v2 x211 x209.2)) fun x213 =>
        if x209.1 = x213.1 then
          b_L_law_1174 F (b_L_law_18 F n) v0 v1 v2 v3 x213.2
        else
          some ((0 : Int32), x213.2)
      else
      if (x4 &&& (63 : Int32)) = (17 : Int32) then
        Option.bind (onc h v1 10 (f_C_inches F v1 h)) fun x217 =>
        Option.bind (onc x217.2 v2 11 (f_M_inches F v2 x217.2)) fun x219 =>
        if x217.1 = x219.1 then
          b_L_law_1174 F (b_L_law_18 F n) v0 v1 v2 v3 x219.2
        else
          some ((0 : Int32), x219.2)
      else
      if (x4 &&& (63 : Int32)) = (18 : Int32) then
        Option.bind (ald h v0 0 (v3 + (1 : Int32))) fun x223 =>
        Option.bind (onc h v1 10 (f_C_inTheWay F v1 x223 h)) fun x225 =>
        Option.bind (ald x225.2 v0 0 (v3 + (1 : Int32))) fun x227 =>
        Option.bind (onc x225.2 v2 11 (f_M_inTheWay F v2 x227 x225.2)) fun x229 =>
        if x225.1 = x229.1 then
          b_L_law_1174 F (b_L_law_18 F n) v0 v1 v2 v3 x229.2
        else
          some ((0 : Int32), x229.2)
      else
      if (x4 &&& (63 : Int32)) = (19 : Int32) then
        Option.bind (ald h v0 0 (v3 + (1 : Int32))) fun x233 =>
        Option.bind (onc h v1 10 (f_C_dig F v1 x233 h)) fun x235 =>
        Option.bind (ald x235.2 v0 0 (v3 + (1 : Int32))) fun x237 =>
        Option.bind (onc x235.2 v2 11 (f_M_dig F v2 x237 x235.2)) fun x239 =>
        if x235.1 = x239.1 then
          b_L_law_1174 F (b_L_law_18 F n) v0 v1 v2 v3 x239.2
        else
          some ((0 : Int32), x239.2)
      else
      if (x4 &&& (63 : Int32)) = (20 : Int32) then
        Option.bind (onc h v1 10 (f_C_years F v1 h)) fun x243 =>
        Option.bind (onc x243.2 v2 11 (f_M_years F v2 x243.2)) fun x245 =>
        if x243.1 = x245.1 then
          b_L_law_1174 F (b_L_law_18 F n) v0 v1 v2 v3 x245.2
        else
          some ((0 : Int32), x245.2)
      else
      if (x4 &&& (63 : Int32)) = (21 : Int32) then
        Option.bind (onc h v1 10 (f_C_better F v1 h)) fun x249 =>
        Option.bind (onc x249.2 v2 11 (f_M_better F v2 x249.2)) fun x251 =>
        if x249.1 = x251.1 then
          b_L_law_1174 F (b_L_law_18 F n) v0 v1 v2 v3 x251.2
        else
          some ((0 : Int32), x251.2)
      else
      if (x4 &&& (63 : Int32)) = (22 : Int32) then
        Option.bind (ald h v0 0 (v3 + (1 : Int32))) fun x255 =>
        Option.bind (ald h v0 0 (v3 + (2 : Int32))) fun x257 =>
        Option.bind (ald h v0 0 (v3 + (3 : Int32))) fun x259 =>
        Option.bind (ald h v0 0 (v3 + (4 : Int32))) fun x261 =>
        Option.bind (onc h v1 10 (f_C_plan F v1 x255 x257 x259 x261 h)) fun x263 =>
        Option.bind (ald x263.2 v0 0 (v3 + (1 : Int32))) fun x265 =>
        Option.bind (ald x263.2 v0 0 (v3 + (2 : Int32))) fun x267 =>
        Option.bind (ald x263.2 v0 0 (v3 + (3 : Int32))) fun x269 =>
        Option.bind (ald x263.2 v0 0 (v3 + (4 : Int32))) fun x271 =>
        Option.bind (onc x263.2 v2 11 (f_M_plan F v2 x265 x267 x269 x271 x263.2)) fun x273 =>
        if x263.1 = x273.1 then
          b_L_law_1174 F (b_L_law_18 F n) v0 v1 v2 v3 x273.2
        else
          some ((0 : Int32), x273.2)
      else
      if (x4 &&& (63 : Int32)) = (23 : Int32) then
        Option.bind (ald h v0 0 (v3 + (1 : Int32))) fun x277 =>
        Option.bind (ald h v0 0 (v3 + (2 : Int32))) fun x279 =>
        Option.bind (ald h v0 0 (v3 + (3 : Int32))) fun x281 =>
        Option.bind (ald h v0 0 (v3 + (4 : Int32))) fun x283 =>
        Option.bind (onc h v1 10 (f_C_seen F v1 x277 x279 x281 x283 h)) fun x285 =>
        Option.bind (ald x285.2 v0 0 (v3 + (1 : Int32))) fun x287 =>
        Option.bind (ald x285.2 v0 0 (v3 + (2 : Int32))) fun x289 =>
        Option.bind (ald x285.2 v0 0 (v3 + (3 : Int32))) fun x291 =>
        Option.bind (ald x285.2 v0 0 (v3 + (4 : Int32))) fun x293 =>
        Option.bind (onc x285.2 v2 11 (f_M_seen F v2 x287 x289 x291 x293 x285.2)) fun x295 =>
        if x285.1 = x295.1 then
          b_L_law_1174 F (b_L_law_18 F n) v0 v1 v2 v3 x295.2
        else
          some ((0 : Int32), x295.2)
      else
      if (x4 &&& (63 : Int32)) = (24 : Int32) then
        Option.bind (ald h v0 0 (v3 + (1 : Int32))) fun x299 =>
        Option.bind (ald h v0 0 (v3 + (2 : Int32))) fun x301 =>
        Option.bind (ald h v0 0 (v3 + (3 : Int32))) fun x303 =>
        Option.bind (ald h v0 0 (v3 + (4 : Int32))) fun x305 =>
        Option.bind (onc h v1 10 (f_C_gusts F v1 x299 x301 x303 x305)) fun x307 =>
        Option.bind (ald h v0 0 (v3 + (1 : Int32))) fun x309 =>
        Option.bind (ald h v0 0 (v3 + (2 : Int32))) fun x311 =>
        Option.bind (ald h v0 0 (v3 + (3 : Int32))) fun x313 =>
        Option.bind (ald h v0 0 (v3 + (4 : Int32))) fun x315 =>
        Option.bind (onc h v2 11 (f_M_gusts F v2 x309 x311 x313 x315 h)) fun x317 =>
        if (lg_cmp x307 x317.1) = 0 then
          b_L_law_1174 F (b_L_law_18 F n) v0 v1 v2 v3 x317.2
        else
          some ((0 : Int32), x317.2)
      else
      if (x4 &&& (63 : Int32)) = (25 : Int32) then
        Option.bind (onc h v1 10 (f_C_reach F v1 h)) fun x321 =>
        Option.bind (onc x321.2 v2 11 (f_M_reach F v2 x321.2)) fun x323 =>
        if x321.1 = x323.1 then
          b_L_law_1174 F (b_L_law_18 F n) v0 v1 v2 v3 x323.2
        else
          some ((0 : Int32), x323.2)
      else
      if (x4 &&& (63 : Int32)) = (26 : Int32) then
        Option.bind (ald h v0 0 (v3 + (1 : Int32))) fun x327 =>
        Option.bind (ald h v0 0 (v3 + (2 : Int32))) fun x329 =>
        Option.bind (ald h v0 0 (v3 + (3 : Int32))) fun x331 =>
        Option.bind (onc h v1 10 (f_C_days F v1 x327 x329 x331 h)) fun x333 =>
        Option.bind (ald x333.2 v0 0 (v3 + (1 : Int32))) fun x335 =>
        Option.bind (ald x333.2 v0 0 (v3 + (2 : Int32))) fun x337 =>
        Option.bind (ald x333.2 v0 0 (v3 + (3 : Int32))) fun x339 =>
        Option.bind (onc x333.2 v2 11 (f_M_days F v2 x335 x337 x339 x333.2)) fun x341 =>
        if x333.1 = x341.1 then
          b_L_law_1174 F (b_L_law_18 F n) v0 v1 v2 v3 x341.2
        else
          some ((0 : Int32), x341.2)
      else
      if (x4 &&& (63 : Int32)) = (27 : Int32) then
        Option.bind (ald h v0 0 (v3 + (1 : Int32))) fun x345 =>
        Option.bind (onc h v1 10 (f_C_image F v1 x345 h)) fun x347 =>
        Option.bind (ald x347.2 v0 0 (v3 + (1 : Int32))) fun x349 =>
        Option.bind (onc x347.2 v2 11 (f_M_image F v2 x349 x347.2)) fun x351 =>
        if x347.1 = x351.1 then
          b_L_law_1174 F (b_L_law_18 F n) v0 v1 v2 v3 x351.2
        else
          some ((0 : Int32), x351.2)
      else
      if (x4 &&& (63 : Int32)) = (28 : Int32) then
        Option.bind (ald h v0 0 (v3 + (1 : Int32))) fun x355 =>
        Option.bind (onc h v1 10 (f_C_restore F v1 x355 h)) fun x357 =>
        Option.bind (ald x357.2 v0 0 (v3 + (1 : Int32))) fun x359 =>
        Option.bind (onc x357.2 v2 11 (f_M_restore F v2 x359 x357.2)) fun x361 =>
        if x357.1 = x361.1 then
          b_L_law_1174 F (b_L_law_18 F n) v0 v1 v2 v3 x361.2
        else
          some ((0 : Int32), x361.2)
      else
      if (x4 &&& (63 : Int32)) = (29 : Int32) then
        Option.bind (ald h v0 0 (v3 + (1 : Int32))) fun x365 =>
        Option.bind (onc h v1 10 (f_C_kind v1 x365 h)) fun x367 =>
        Option.bind (ald h v0 0 (v3 + (1 : Int32))) fun x369 =>
        Option.bind (onc h v2 11 (f_M_kind v2 x369 h)) fun x371 =>
        if x367 = x371.1 then
          b_L_law_1174 F (b_L_law_18 F n) v0 v1 v2 v3 x371.2
        else
          some ((0 : Int32), x371.2)
      else
      if (x4 &&& (63 : Int32)) = (30 : Int32) then
        Option.bind (ald h v0 0 (v3 + (1 : Int32))) fun x375 =>
        Option.bind (ald h v0 0 (v3 + (2 : Int32))) fun x377 =>
        Option.bind (onc h v1 10 (f_C_as v1 x375 x377 h)) fun x379 =>
        Option.bind (ald x379.2 v0 0 (v3 + (1 : Int32))) fun x381 =>
        Option.bind (ald x379.2 v0 0 (v3 + (2 : Int32))) fun x383 =>
        Option.bind (onc x379.2 v2 11 (f_M_as v2 x381 x383 x379.2)) fun x385 =>
        if x379.1 = x385.1 then
          b_L_law_1174 F (b_L_law_18 F n) v0 v1 v2 v3 x385.2
        else
          some ((0 : Int32), x385.2)
      else
      if (x4 &&& (63 : Int32)) = (31 : Int32) then
        Option.bind (ald h v0 0 (v3 + (1 : Int32))) fun x389 =>
        Option.bind (ald h v0 0 (v3 + (2 : Int32))) fun x391 =>
        Option.bind (onc h v1 10 (f_C_ask v1 x389 x391 h)) fun x393 =>
        Option.bind (ald x393.2 v0 0 (v3 + (1 : Int32))) fun x395 =>
        Option.bind (ald x393.2 v0 0 (v3 + (2 : Int32))) fun x397 =>
        Option.bind (onc x393.2 v2 11 (f_M_ask v2 x395 x397 x393.2)) fun x399 =>
        if x393.1 = x399.1 then
          b_L_law_1174 F (b_L_law_18 F n) v0 v1 v2 v3 x399.2
        else
          some ((0 : Int32), x399.2)
      else
      if (x4 &&& (63 : Int32)) = (32 : Int32) then
        Option.bind (ald h v0 0 (v3 + (1 : Int32))) fun x403 =>
        Option.bind (onc h v1 10 (f_C_trace v1 x403 h)) fun x405 =>
        Option.bind (ald h v0 0 (v3 + (1 : Int32))) fun x407 =>
        Option.bind (onc h v2 11 (f_M_trace v2 x407 h)) fun x409 =>
        if x405 = x409.1 then
          b_L_law_1174 F (b_L_law_18 F n) v0 v1 v2 v3 x409.2
        else
          some ((0 : Int32), x409.2)
      else
      if (x4 &&& (63 : Int32)) = (33 : Int32) then
        Option.bind (ald h v0 0 (v3 + (1 : Int32))) fun x413 =>
        Option.bind (onc h v1 10 (f_C_count F v1 x413 h)) fun x415 =>
        Option.bind (ald h v0 0 (v3 + (1 : Int32))) fun x417 =>
        Option.bind (onc h v2 11 (f_M_count F v2 x417 h)) fun x419 =>
        if x415 = x419.1 then
          b_L_law_1174 F (b_L_law_18 F n) v0 v1 v2 v3 x419.2
        else
          some ((0 : Int32), x419.2)
      else
      if (x4 &&& (63 : Int32)) = (34 : Int32) then
        Option.bind (onc h v1 10 (f_C_status v1 h)) fun x423 =>
        Option.bind (onc h v2 11 (f_M_status v2 h)) fun x425 =>
        if x423 = x425.1 then
          b_L_law_1174 F (b_L_law_18 F n) v0 v1 v2 v3 x425.2
        else
          some ((0 : Int32), x425.2)
      else
      b_L_law_1174 F (b_L_law_18 F n) v0 v1 v2 v3 h
def f_L_law (F : Nat) (v0 : Option Nat) (h : MH) : Option (Int32 × MH) :=
  Option.bind (newO h 10) fun h1 =>
  Option.bind (f_C_init F (some h.2.1) h1) fun h3 =>
  Option.bind (newO h3 11) fun h5 =>
  Option.bind (f_M_init (some h3.2.1) h5) fun h7 =>
  b_L_law_18 F F v0 (some h.2.1) (some h3.2.1) (0 : Int32) h7
set_option maxHeartbeats 4000000 in
set_option maxRecDepth 200000 in
theorem p_L_law_1174 (F : Nat) {h0 : MH} (k18 : (Option Nat) → (Option Nat) → (Option Nat) → Int32 → MH → (Option (Int32 × MH))) (hk18 : ∀ (v0 : Option Nat) (v1 : Option Nat) (v2 : Option Nat) (v3 : Int32) (h : MH) (r : (Int32 × MH)), k18 v0 v1 v2 v3 h = some r → Rt mi_L_law 26 h0 18 [(0, va_rf v0), (1, va_rf v1), (2, va_rf v2), (3, .int v3)] [] h (some (.int r.1)) r.2) (v0 : Option Nat) (v1 : Option Nat) (v2 : Option Nat) (v3 : Int32) (h : MH) (r : (Int32 × MH)) : b_L_law_1174 F k18  v0 v1 v2 v3 h = some r → Rt mi_L_law 26 h0 1174 [(0, va_rf v0), (1, va_rf v1), (2, va_rf v2), (3, .int v3)] [] h (some (.int r.1)) r.2 := by
  intro hyp
  unfold b_L_law_1174 at hyp
  refine rt_st (pc1 := 18) (fun _ _ B => go_iinc (v := (v3 + (6 : Int32))) (lv1 := [(3, .int (v3 + (6 : Int32))), (0, va_rf v0), (1, va_rf v1), (2, va_rf v2)]) 3 d_L_law_1174 rfl rfl (by decide) (by first | (simp [mj_s1, mj_s2, mj_rfc, mj_cti, mj_ctl]; done) | (simp [mj_s1, mj_s2, mj_rfc, mj_cti, mj_ctl]; decide)) (go_goto 18 d_L_law_1177 rfl B)) ?_
  refine rt_sub [1, 2, 3, 0] (lv1 := [(0, va_rf v0), (1, va_rf v1), (2, va_rf v2), (3, .int (v3 + (6 : Int32)))]) rfl ?_
  exact hk18 _ _ _ _ _ _ hyp
set_option maxHeartbeats 4000000 in
set_option maxRecDepth 200000 in
theorem p_L_law_18 (F : Nat) {h0 : MH} : ∀ (n : Nat) (v0 : Option Nat) (v1 : Option Nat) (v2 : Option Nat) (v3 : Int32) (h : MH) (r : (Int32 × MH)), b_L_law_18 F  n v0 v1 v2 v3 h = some r → Rt mi_L_law 26 h0 18 [(0, va_rf v0), (1, va_rf v1), (2, va_rf v2), (3, .int v3)] [] h (some (.int r.1)) r.2 := by
  intro n
  induction n with
  | zero =>
    intro v0 v1 v2 v3 h r hyp
    cases hyp
  | succ n ih =>
    intro v0 v1 v2 v3 h r hyp
    unfold b_L_law_18 at hyp
    obtain ⟨x1, e2, hyp⟩ := Option.bind_eq_some_iff.mp hyp
    refine rt_st (pc1 := 24) (fun _ _ B => go_iload_n 3 d_L_law_18 rfl (go_aload_n 0 d_L_law_19 rfl (go_alen d_L_law_20 e2 (go_bipush (v := (6 : Int32)) d_L_law_21 (by decide) (go_isub d_L_law_23 B))))) ?_
    by_cases c3 : (x1 - (6 : Int32)) < v3
    · replace hyp := (if_pos c3).symm.trans hyp
      refine rt_st (pc1 := 1181) (fun _ _ B => go_icmp_gt_t 1180 d_L_law_24 rfl c3 (go_iconst (v := (1 : Int32)) d_L_law_1180 (by decide) B)) ?_
      exact rt_eqW Value.int hyp (rt_bool d_L_law_1181 rfl (by decide))
    · replace hyp := (if_neg c3).symm.trans hyp
      obtain ⟨x4, e5, hyp⟩ := Option.bind_eq_some_iff.mp hyp
      refine rt_st (pc1 := 33) (fun _ _ B => go_icmp_gt_f d_L_law_24 rfl c3 (go_aload_n 0 d_L_law_27 rfl (go_iload_n 3 d_L_law_28 rfl (go_iald d_L_law_29 e5 (go_bipush (v := (63 : Int32)) d_L_law_30 (by decide) (go_iand d_L_law_32 B)))))) ?_
      by_cases c6 : (x4 &&& (63 : Int32)) = (0 : Int32)
      · replace hyp := (if_pos c6).symm.trans hyp
        obtain ⟨x7, e8, hyp⟩ := Option.bind_eq_some_iff.mp hyp
        obtain ⟨x9, e10, hyp⟩ := Option.bind_eq_some_iff.mp hyp
        obtain ⟨x11, e12, hyp⟩ := Option.bind_eq_some_iff.mp hyp
        obtain ⟨x13, e14, hyp⟩ := Option.bind_eq_some_iff.mp hyp
        obtain ⟨x15, e16, hyp⟩ := Option.bind_eq_some_iff.mp hyp
        obtain ⟨x17, e18, hyp⟩ := Option.bind_eq_some_iff.mp hyp
        obtain ⟨x19, e20, hyp⟩ := Option.bind_eq_some_iff.mp hyp
        obtain ⟨x21, e22, hyp⟩ := Option.bind_eq_some_iff.mp hyp
        refine rt_st (pc1 := 226) (fun _ _ B => go_tsw 188 d_L_law_33 (by decide) (by rw [c6]; decide) (go_aload_n 1 d_L_law_188 rfl (go_aload_n 0 d_L_law_189 rfl (go_iload_n 3 d_L_law_190 rfl (go_iconst (v := (1 : Int32)) d_L_law_191 (by decide) (go_iadd d_L_law_192 (go_iald d_L_law_193 e8 (go_aload_n 0 d_L_law_194 rfl (go_iload_n 3 d_L_law_195 rfl (go_iconst (v := (2 : Int32)) d_L_law_196 (by decide) (go_iadd d_L_law_197 (go_iald d_L_law_198 e10 (go_aload_n 0 d_L_law_199 rfl (go_iload_n 3 d_L_law_200 rfl (go_iconst (v := (3 : Int32)) d_L_law_201 (by decide) (go_iadd d_L_law_202 (go_iald d_L_law_203 e12 (go_callV1 (q := q_10) (st := []) [.int x7, .int x9, .int x11] (t_C_row F v1 x7 x9 x11 h _ (onc_spec e14).2) mm_C_row (by decide) d_L_law_204 (onc_spec e14).1 rfl rfl w306 w307 w308 rfl (Nat.le_of_ble_eq_true rfl) rfl (go_aload_n 2 d_L_law_207 rfl (go_aload_n 0 d_L_law_208 rfl (go_iload_n 3 d_L_law_209 rfl (go_iconst (v := (1 : Int32)) d_L_law_210 (by decide) (go_iadd d_L_law_211 (go_iald d_L_law_212 e16 (go_aload_n 0 d_L_law_213 rfl (go_iload_n 3 d_L_law_214 rfl (go_iconst (v := (2 : Int32)) d_L_law_215 (by decide) (go_iadd d_L_law_216 (go_iald d_L_law_217 e18 (go_aload_n 0 d_L_law_218 rfl (go_iload_n 3 d_L_law_219 rfl (go_iconst (v := (3 : Int32)) d_L_law_220 (by decide) (go_iadd d_L_law_221 (go_iald d_L_law_222 e20 (go_callV1 (q := q_11) (st := [.int x13.1]) [.int x15, .int x17, .int x19] (t_M_row F v2 x15 x17 x19 x13.2 _ (onc_spec e22).2) mm_M_row (by decide) d_L_law_223 (onc_spec e22).1 rfl rfl w1066 w1067 w1068 rfl (Nat.le_of_ble_eq_true rfl) rfl B))))))))))))))))))))))))))))))))))) ?_
        by_cases c23 : x13.1 = x21.1
        · replace hyp := (if_pos c23).symm.trans hyp
          refine rt_st (pc1 := 1174) (fun _ _ B => go_icmp_eq_t 1174 d_L_law_226 rfl c23 B) ?_
          exact p_L_law_1174 F (b_L_law_18 F n) (fun a0 a1 a2 a3 a4 r hyp => ih a0 a1 a2 a3 a4 r hyp) _ _ _ _ _ r hyp
        · replace hyp := (if_neg c23).symm.trans hyp
          refine rt_st (pc1 := 230) (fun _ _ B => go_icmp_eq_f d_L_law_226 rfl c23 (go_iconst (v := (0 : Int32)) d_L_law_229 (by decide) B)) ?_
          exact rt_eqW Value.int hyp (rt_bool d_L_law_230 rfl (by decide))
      replace hyp := (if_neg c6).symm.trans hyp
      by_cases c24 : (x4 &&& (63 : Int32)) = (1 : Int32)
      · replace hyp := (if_pos c24).symm.trans hyp
        obtain ⟨x25, e26, hyp⟩ := Option.bind_eq_some_iff.mp hyp
        obtain ⟨x27, e28, hyp⟩ := Option.bind_eq_some_iff.mp hyp
        obtain ⟨x29, e30, hyp⟩ := Option.bind_eq_some_iff.mp hyp
        obtain ⟨x31, e32, hyp⟩ := Option.bind_eq_some_iff.mp hyp
        obtain ⟨x33, e34, hyp⟩ := Option.bind_eq_some_iff.mp hyp
        obtain ⟨x35, e36, hyp⟩ := Option.bind_eq_some_iff.mp hyp
        obtain ⟨x37, e38, hyp⟩ := Option.bind_eq_some_iff.mp hyp
        obtain ⟨x39, e40, hyp⟩ := Option.bind_eq_some_iff.mp hyp
        refine rt_st (pc1 := 269) (fun _ _ B => go_tsw 231 d_L_law_33 (by decide) (by rw [c24]; decide) (go_aload_n 1 d_L_law_231 rfl (go_aload_n 0 d_L_law_232 rfl (go_iload_n 3 d_L_law_233 rfl (go_iconst (v := (1 : Int32)) d_L_law_234 (by decide) (go_iadd d_L_law_235 (go_iald d_L_law_236 e26 (go_aload_n 0 d_L_law_237 rfl (go_iload_n 3 d_L_law_238 rfl (go_iconst (v := (2 : Int32)) d_L_law_239 (by decide) (go_iadd d_L_law_240 (go_iald d_L_law_241 e28 (go_aload_n 0 d_L_law_242 rfl (go_iload_n 3 d_L_law_243 rfl (go_iconst (v := (3 : Int32)) d_L_law_244 (by decide) (go_iadd d_L_law_245 (go_iald d_L_law_246 e30 (go_callV1 (q := q_10) (st := []) [.int x25, .int x27, .int x29] (t_C_set v1 x25 x27 x29 h _ (onc_spec e32).2) mm_C_set (by decide) d_L_law_247 (onc_spec e32).1 rfl rfl w333 w334 w335 rfl (Nat.le_of_ble_eq_true rfl) rfl (go_aload_n 2 d_L_law_250 rfl (go_aload_n 0 d_L_law_251 rfl (go_iload_n 3 d_L_law_252 rfl (go_iconst (v := (1 : Int32)) d_L_law_253 (by decide) (go_iadd d_L_law_254 (go_iald d_L_law_255 e34 (go_aload_n 0 d_L_law_256 rfl (go_iload_n 3 d_L_law_257 rfl (go_iconst (v := (2 : Int32)) d_L_law_258 (by decide) (go_iadd d_L_law_259 (go_iald d_L_law_260 e36 (go_aload_n 0 d_L_law_261 rfl (go_iload_n 3 d_L_law_262 rfl (go_iconst (v := (3 : Int32)) d_L_law_263 (by decide) (go_iadd d_L_law_264 (go_iald d_L_law_265 e38 (go_callV1 (q := q_11) (st := [.int x31.1]) [.int x33, .int x35, .int x37] (t_M_set v2 x33 x35 x37 x31.2 _ (onc_spec e40).2) mm_M_set (by decide) d_L_law_266 (onc_spec e40).1 rfl rfl w1086 w1087 w1088 rfl (Nat.le_of_ble_eq_true rfl) rfl B))))))))))))))))))))))))))))))))))) ?_
        by_cases c41 : x31.1 = x39.1
        · replace hyp := (if_pos c41).symm.trans hyp
          refine rt_st (pc1 := 1174) (fun _ _ B => go_icmp_eq_t 1174 d_L_law_269 rfl c41 B) ?_
          exact p_L_law_1174 F (b_L_law_18 F n) (fun a0 a1 a2 a3 a4 r hyp => ih a0 a1 a2 a3 a4 r hyp) _ _ _ _ _ r hyp
        · replace hyp := (if_neg c41).symm.trans hyp
          refine rt_st (pc1 := 273) (fun _ _ B => go_icmp_eq_f d_L_law_269 rfl c41 (go_iconst (v := (0 : Int32)) d_L_law_272 (by decide) B)) ?_
          exact rt_eqW Value.int hyp (rt_bool d_L_law_273 rfl (by decide))
      replace hyp := (if_neg c24).symm.trans hyp
      by_cases c42 : (x4 &&& (63 : Int32)) = (2 : Int32)
      · replace hyp := (if_pos c42).symm.trans hyp
        obtain ⟨x43, e44, hyp⟩ := Option.bind_eq_some_iff.mp hyp
        obtain ⟨x45, e46, hyp⟩ := Option.bind_eq_some_iff.mp hyp
        obtain ⟨x47, e48, hyp⟩ := Option.bind_eq_some_iff.mp hyp
        obtain ⟨x49, e50, hyp⟩ := Option.bind_eq_some_iff.mp hyp
        obtain ⟨x51, e52, hyp⟩ := Option.bind_eq_some_iff.mp hyp
        obtain ⟨x53, e54, hyp⟩ := Option.bind_eq_some_iff.mp hyp
        obtain ⟨x55, e56, hyp⟩ := Option.bind_eq_some_iff.mp hyp
        obtain ⟨x57, e58, hyp⟩ := Option.bind_eq_some_iff.mp hyp
        refine rt_st (pc1 := 316) (fun _ _ B => go_tsw 274 d_L_law_33 (by decide) (by rw [c42]; decide) (go_aload_n 1 d_L_law_274 rfl (go_aload_n 0 d_L_law_275 rfl (go_iload_n 3 d_L_law_276 rfl (go_iconst (v := (1 : Int32)) d_L_law_277 (by decide) (go_iadd d_L_law_278 (go_iald d_L_law_279 e44 (go_aload_n 0 d_L_law_280 rfl (go_iload_n 3 d_L_law_281 rfl (go_iconst (v := (2 : Int32)) d_L_law_282 (by decide) (go_iadd d_L_law_283 (go_iald d_L_law_284 e46 (go_aload_n 0 d_L_law_285 rfl (go_iload_n 3 d_L_law_286 rfl (go_iconst (v := (3 : Int32)) d_L_law_287 (by decide) (go_iadd d_L_law_288 (go_iald d_L_law_289 e48 (go_aload_n 0 d_L_law_290 rfl (go_iload_n 3 d_L_law_291 rfl (go_iconst (v := (4 : Int32)) d_L_law_292 (by decide) (go_iadd d_L_law_293 (go_iald d_L_law_294 e50 (go_aload_n 0 d_L_law_295 rfl (go_iload_n 3 d_L_law_296 rfl (go_iconst (v := (5 : Int32)) d_L_law_297 (by decide) (go_iadd d_L_law_298 (go_iald d_L_law_299 e52 (go_callV1 (q := q_10) (st := []) [.int x43, .int x45, .int x47, .int x49, .int x51] (t_C_copy v1 x43 x45 x47 x49 x51 h _ (onc_spec e54).2) mm_C_copy (by decide) d_L_law_300 (onc_spec e54).1 rfl rfl w353 w354 w355 rfl (Nat.le_of_ble_eq_true rfl) rfl (go_aload_n 2 d_L_law_303 rfl (go_aload_n 0 d_L_law_304 rfl (go_iload_n 3 d_L_law_305 rfl (go_iconst (v := (1 : Int32)) d_L_law_306 (by decide) (go_iadd d_L_law_307 (go_iald d_L_law_308 e56 (go_aload_n 0 d_L_law_309 rfl (go_iload_n 3 d_L_law_310 rfl (go_iconst (v := (2 : Int32)) d_L_law_311 (by decide) (go_iadd d_L_law_312 (go_iald d_L_law_313 e58 (go_aload_n 0 d_L_law_314 rfl (go_iload_n 3 d_L_law_315 rfl B))))))))))))))))))))))))))))))))))))))))) ?_
        obtain ⟨x59, e60, hyp⟩ := Option.bind_eq_some_iff.mp hyp
        obtain ⟨x61, e62, hyp⟩ := Option.bind_eq_some_iff.mp hyp
        obtain ⟨x63, e64, hyp⟩ := Option.bind_eq_some_iff.mp hyp
        obtain ⟨x65, e66, hyp⟩ := Option.bind_eq_some_iff.mp hyp
        refine rt_st (pc1 := 332) (fun _ _ B => go_iconst (v := (3 : Int32)) d_L_law_316 (by decide) (go_iadd d_L_law_317 (go_iald d_L_law_318 e60 (go_aload_n 0 d_L_law_319 rfl (go_iload_n 3 d_L_law_320 rfl (go_iconst (v := (4 : Int32)) d_L_law_321 (by decide) (go_iadd d_L_law_322 (go_iald d_L_law_323 e62 (go_aload_n 0 d_L_law_324 rfl (go_iload_n 3 d_L_law_325 rfl (go_iconst (v := (5 : Int32)) d_L_law_326 (by decide) (go_iadd d_L_law_327 (go_iald d_L_law_328 e64 (go_callV1 (q := q_11) (st := [.int x53.1]) [.int x55, .int x57, .int x59, .int x61, .int x63] (t_M_copy F v2 x55 x57 x59 x61 x63 x53.2 _ (onc_spec e66).2) mm_M_copy (by decide) d_L_law_329 (onc_spec e66).1 rfl rfl w1093 w1094 w1095 rfl (Nat.le_of_ble_eq_true rfl) rfl B)))))))))))))) ?_
        by_cases c67 : x53.1 = x65.1
        · replace hyp := (if_pos c67).symm.trans hyp
          refine rt_st (pc1 := 1174) (fun _ _ B => go_icmp_eq_t 1174 d_L_law_332 rfl c67 B) ?_
          exact p_L_law_1174 F (b_L_law_18 F n) (fun a0 a1 a2 a3 a4 r hyp => ih a0 a1 a2 a3 a4 r hyp) _ _ _ _ _ r hyp
        · replace hyp := (if_neg c67).symm.trans hyp
          refine rt_st (pc1 := 336) (fun _ _ B => go_icmp_eq_f d_L_law_332 rfl c67 (go_iconst (v := (0 : Int32)) d_L_law_335 (by decide) B)) ?_
          exact rt_eqW Value.int hyp (rt_bool d_L_law_336 rfl (by decide))
      replace hyp := (if_neg c42).symm.trans hyp
      by_cases c68 : (x4 &&& (63 : Int32)) = (3 : Int32)
      · replace hyp := (if_pos c68).symm.trans hyp
        obtain ⟨x69, e70, hyp⟩ := Option.bind_eq_some_iff.mp hyp
        obtain ⟨x71, e72, hyp⟩ := Option.bind_eq_some_iff.mp hyp
        obtain ⟨x73, e74, hyp⟩ := Option.bind_eq_some_iff.mp hyp
        obtain ⟨x75, e76, hyp⟩ := Option.bind_eq_some_iff.mp hyp
        refine rt_st (pc1 := 355) (fun _ _ B => go_tsw 337 d_L_law_33 (by decide) (by rw [c68]; decide) (go_aload_n 1 d_L_law_337 rfl (go_aload_n 0 d_L_law_338 rfl (go_iload_n 3 d_L_law_339 rfl (go_iconst (v := (1 : Int32)) d_L_law_340 (by decide) (go_iadd d_L_law_341 (go_iald d_L_law_342 e70 (go_callV1 (q := q_10) (st := []) [.int x69] (t_C_drop v1 x69 h _ (onc_spec e72).2) mm_C_drop (by decide) d_L_law_343 (onc_spec e72).1 rfl rfl w370 w371 w372 rfl (Nat.le_of_ble_eq_true rfl) rfl (go_aload_n 2 d_L_law_346 rfl (go_aload_n 0 d_L_law_347 rfl (go_iload_n 3 d_L_law_348 rfl (go_iconst (v := (1 : Int32)) d_L_law_349 (by decide) (go_iadd d_L_law_350 (go_iald d_L_law_351 e74 (go_callV1 (q := q_11) (st := [.int x71.1]) [.int x73] (t_M_drop v2 x73 x71.2 _ (onc_spec e76).2) mm_M_drop (by decide) d_L_law_352 (onc_spec e76).1 rfl rfl w1101 w1102 w1103 rfl (Nat.le_of_ble_eq_true rfl) rfl B))))))))))))))) ?_
        by_cases c77 : x71.1 = x75.1
        · replace hyp := (if_pos c77).symm.trans hyp
          refine rt_st (pc1 := 1174) (fun _ _ B => go_icmp_eq_t 1174 d_L_law_355 rfl c77 B) ?_
          exact p_L_law_1174 F (b_L_law_18 F n) (fun a0 a1 a2 a3 a4 r hyp => ih a0 a1 a2 a3 a4 r hyp) _ _ _ _ _ r hyp
        · replace hyp := (if_neg c77).symm.trans hyp
          refine rt_st (pc1 := 359) (fun _ _ B => go_icmp_eq_f d_L_law_355 rfl c77 (go_iconst (v := (0 : Int32)) d_L_law_358 (by decide) B)) ?_
          exact rt_eqW Value.int hyp (rt_bool d_L_law_359 rfl (by decide))
      replace hyp := (if_neg c68).symm.trans hyp
      by_cases c78 : (x4 &&& (63 : Int32)) = (4 : Int32)
      · replace hyp := (if_pos c78).symm.trans hyp
        obtain ⟨x79, e80, hyp⟩ := Option.bind_eq_some_iff.mp hyp
        obtain ⟨x81, e82, hyp⟩ := Option.bind_eq_some_iff.mp hyp
        obtain ⟨x83, e84, hyp⟩ := Option.bind_eq_some_iff.mp hyp
        obtain ⟨x85, e86, hyp⟩ := Option.bind_eq_some_iff.mp hyp
        refine rt_st (pc1 := 378) (fun _ _ B => go_tsw 360 d_L_law_33 (by decide) (by rw [c78]; decide) (go_aload_n 1 d_L_law_360 rfl (go_aload_n 0 d_L_law_361 rfl (go_iload_n 3 d_L_law_362 rfl (go_iconst (v := (1 : Int32)) d_L_law_363 (by decide) (go_iadd d_L_law_364 (go_iald d_L_law_365 e80 (go_callV1 (q := q_10) (st := []) [.int x79] (t_C_feed v1 x79 h _ (onc_spec e82).2) mm_C_feed (by decide) d_L_law_366 (onc_spec e82).1 rfl rfl w378 w379 w380 rfl (Nat.le_of_ble_eq_true rfl) rfl (go_aload_n 2 d_L_law_369 rfl (go_aload_n 0 d_L_law_370 rfl (go_iload_n 3 d_L_law_371 rfl (go_iconst (v := (1 : Int32)) d_L_law_372 (by decide) (go_iadd d_L_law_373 (go_iald d_L_law_374 e84 (go_callV1 (q := q_11) (st := [.int x81.1]) [.int x83] (t_M_feed v2 x83 x81.2 _ (onc_spec e86).2) mm_M_feed (by decide) d_L_law_375 (onc_spec e86).1 rfl rfl w1105 w1106 w1107 rfl (Nat.le_of_ble_eq_true rfl) rfl B))))))))))))))) ?_
        by_cases c87 : x81.1 = x85.1
        · replace hyp := (if_pos c87).symm.trans hyp
          refine rt_st (pc1 := 1174) (fun _ _ B => go_icmp_eq_t 1174 d_L_law_378 rfl c87 B) ?_
          exact p_L_law_1174 F (b_L_law_18 F n) (fun a0 a1 a2 a3 a4 r hyp => ih a0 a1 a2 a3 a4 r hyp) _ _ _ _ _ r hyp
        · replace hyp := (if_neg c87).symm.trans hyp
          refine rt_st (pc1 := 382) (fun _ _ B => go_icmp_eq_f d_L_law_378 rfl c87 (go_iconst (v := (0 : Int32)) d_L_law_381 (by decide) B)) ?_
          exact rt_eqW Value.int hyp (rt_bool d_L_law_382 rfl (by decide))
      replace hyp := (if_neg c78).symm.trans hyp
      by_cases c88 : (x4 &&& (63 : Int32)) = (5 : Int32)
      · replace hyp := (if_pos c88).symm.trans hyp
        obtain ⟨x89, e90, hyp⟩ := Option.bind_eq_some_iff.mp hyp
        obtain ⟨x91, e92, hyp⟩ := Option.bind_eq_some_iff.mp hyp
        refine rt_st (pc1 := 391) (fun _ _ B => go_tsw 383 d_L_law_33 (by decide) (by rw [c88]; decide) (go_aload_n 1 d_L_law_383 rfl (go_callV1 (q := q_10) (st := []) [] (t_C_basin F v1 h _ (onc_spec e90).2) mm_C_basin (by decide) d_L_law_384 (onc_spec e90).1 rfl rfl w392 w393 w394 rfl (Nat.le_of_ble_eq_true rfl) rfl (go_aload_n 2 d_L_law_387 rfl (go_callV1 (q := q_11) (st := [.int x89.1]) [] (t_M_basin F v2 x89.2 _ (onc_spec e92).2) mm_M_basin (by decide) d_L_law_388 (onc_spec e92).1 rfl rfl w1110 w1111 w1112 rfl (Nat.le_of_ble_eq_true rfl) rfl B))))) ?_
        by_cases c93 : x89.1 = x91.1
        · replace hyp := (if_pos c93).symm.trans hyp
          refine rt_st (pc1 := 1174) (fun _ _ B => go_icmp_eq_t 1174 d_L_law_391 rfl c93 B) ?_
          exact p_L_law_1174 F (b_L_law_18 F n) (fun a0 a1 a2 a3 a4 r hyp => ih a0 a1 a2 a3 a4 r hyp) _ _ _ _ _ r hyp
        · replace hyp := (if_neg c93).symm.trans hyp
          refine rt_st (pc1 := 395) (fun _ _ B => go_icmp_eq_f d_L_law_391 rfl c93 (go_iconst (v := (0 : Int32)) d_L_law_394 (by decide) B)) ?_
          exact rt_eqW Value.int hyp (rt_bool d_L_law_395 rfl (by decide))
      replace hyp := (if_neg c88).symm.trans hyp
      by_cases c94 : (x4 &&& (63 : Int32)) = (6 : Int32)
      · replace hyp := (if_pos c94).symm.trans hyp
        obtain ⟨x95, e96, hyp⟩ := Option.bind_eq_some_iff.mp hyp
        obtain ⟨x97, e98, hyp⟩ := Option.bind_eq_some_iff.mp hyp
        refine rt_st (pc1 := 404) (fun _ _ B => go_tsw 396 d_L_law_33 (by decide) (by rw [c94]; decide) (go_aload_n 1 d_L_law_396 rfl (go_callV1 (q := q_10) (st := []) [] (t_C_fault v1 h _ (onc_spec e96).2) mm_C_fault (by decide) d_L_law_397 (onc_spec e96).1 rfl rfl w536 w537 w538 rfl (Nat.le_of_ble_eq_true rfl) rfl (go_aload_n 2 d_L_law_400 rfl (go_callV1 (q := q_11) (st := [.int x95]) [] (t_M_fault v2 h _ (onc_spec e98).2) mm_M_fault (by decide) d_L_law_401 (onc_spec e98).1 rfl rfl w1156 w1157 w1158 rfl (Nat.le_of_ble_eq_true rfl) rfl B))))) ?_
        by_cases c99 : x95 = x97.1
        · replace hyp := (if_pos c99).symm.trans hyp
          refine rt_st (pc1 := 1174) (fun _ _ B => go_icmp_eq_t 1174 d_L_law_404 rfl c99 B) ?_
          exact p_L_law_1174 F (b_L_law_18 F n) (fun a0 a1 a2 a3 a4 r hyp => ih a0 a1 a2 a3 a4 r hyp) _ _ _ _ _ r hyp
        · replace hyp := (if_neg c99).symm.trans hyp
          refine rt_st (pc1 := 408) (fun _ _ B => go_icmp_eq_f d_L_law_404 rfl c99 (go_iconst (v := (0 : Int32)) d_L_law_407 (by decide) B)) ?_
          exact rt_eqW Value.int hyp (rt_bool d_L_law_408 rfl (by decide))
      replace hyp := (if_neg c94).symm.trans hyp
      by_cases c100 : (x4 &&& (63 : Int32)) = (7 : Int32)
      · replace hyp := (if_pos c100).symm.trans hyp
        obtain ⟨x101, e102, hyp⟩ := Option.bind_eq_some_iff.mp hyp
        obtain ⟨x103, e104, hyp⟩ := Option.bind_eq_some_iff.mp hyp
        refine rt_st (pc1 := 417) (fun _ _ B => go_tsw 409 d_L_law_33 (by decide) (by rw [c100]; decide) (go_aload_n 1 d_L_law_409 rfl (go_callV1 (q := q_10) (st := []) [] (t_C_undo F v1 h _ (onc_spec e102).2) mm_C_undo (by decide) d_L_law_410 (onc_spec e102).1 rfl rfl w544 w545 w546 rfl (Nat.le_of_ble_eq_true rfl) rfl (go_aload_n 2 d_L_law_413 rfl (go_callV1 (q := q_11) (st := [.int x101.1]) [] (t_M_undo F v2 x101.2 _ (onc_spec e104).2) mm_M_undo (by decide) d_L_law_414 (onc_spec e104).1 rfl rfl w1160 w1161 w1162 rfl (Nat.le_of_ble_eq_true rfl) rfl B))))) ?_
        by_cases c105 : x101.1 = x103.1
        · replace hyp := (if_pos c105).symm.trans hyp
          refine rt_st (pc1 := 1174) (fun _ _ B => go_icmp_eq_t 1174 d_L_law_417 rfl c105 B) ?_
          exact p_L_law_1174 F (b_L_law_18 F n) (fun a0 a1 a2 a3 a4 r hyp => ih a0 a1 a2 a3 a4 r hyp) _ _ _ _ _ r hyp
        · replace hyp := (if_neg c105).symm.trans hyp
          refine rt_st (pc1 := 421) (fun _ _ B => go_icmp_eq_f d_L_law_417 rfl c105 (go_iconst (v := (0 : Int32)) d_L_law_420 (by decide) B)) ?_
          exact rt_eqW Value.int hyp (rt_bool d_L_law_421 rfl (by decide))
      replace hyp := (if_neg c100).symm.trans hyp
      by_cases c106 : (x4 &&& (63 : Int32)) = (8 : Int32)
      · replace hyp := (if_pos c106).symm.trans hyp
        obtain ⟨x107, e108, hyp⟩ := Option.bind_eq_some_iff.mp hyp
        obtain ⟨x109, e110, hyp⟩ := Option.bind_eq_some_iff.mp hyp
        obtain ⟨x111, e112, hyp⟩ := Option.bind_eq_some_iff.mp hyp
        obtain ⟨x113, e114, hyp⟩ := Option.bind_eq_some_iff.mp hyp
        obtain ⟨x115, e116, hyp⟩ := Option.bind_eq_some_iff.mp hyp
        obtain ⟨x117, e118, hyp⟩ := Option.bind_eq_some_iff.mp hyp
        refine rt_st (pc1 := 450) (fun _ _ B => go_tsw 422 d_L_law_33 (by decide) (by rw [c106]; decide) (go_aload_n 1 d_L_law_422 rfl (go_aload_n 0 d_L_law_423 rfl (go_iload_n 3 d_L_law_424 rfl (go_iconst (v := (1 : Int32)) d_L_law_425 (by decide) (go_iadd d_L_law_426 (go_iald d_L_law_427 e108 (go_aload_n 0 d_L_law_428 rfl (go_iload_n 3 d_L_law_429 rfl (go_iconst (v := (2 : Int32)) d_L_law_430 (by decide) (go_iadd d_L_law_431 (go_iald d_L_law_432 e110 (go_callV1 (q := q_10) (st := []) [.int x107, .int x109] (t_C_move v1 x107 x109 h _ (onc_spec e112).2) mm_C_move (by decide) d_L_law_433 (onc_spec e112).1 rfl rfl w563 w564 w565 rfl (Nat.le_of_ble_eq_true rfl) rfl (go_aload_n 2 d_L_law_436 rfl (go_aload_n 0 d_L_law_437 rfl (go_iload_n 3 d_L_law_438 rfl (go_iconst (v := (1 : Int32)) d_L_law_439 (by decide) (go_iadd d_L_law_440 (go_iald d_L_law_441 e114 (go_aload_n 0 d_L_law_442 rfl (go_iload_n 3 d_L_law_443 rfl (go_iconst (v := (2 : Int32)) d_L_law_444 (by decide) (go_iadd d_L_law_445 (go_iald d_L_law_446 e116 (go_callV1 (q := q_11) (st := [.int x111.1]) [.int x113, .int x115] (t_M_move F v2 x113 x115 x111.2 _ (onc_spec e118).2) mm_M_move (by decide) d_L_law_447 (onc_spec e118).1 rfl rfl w1165 w1166 w1167 rfl (Nat.le_of_ble_eq_true rfl) rfl B))))))))))))))))))))))))) ?_
        by_cases c119 : x111.1 = x117.1
        · replace hyp := (if_pos c119).symm.trans hyp
          refine rt_st (pc1 := 1174) (fun _ _ B => go_icmp_eq_t 1174 d_L_law_450 rfl c119 B) ?_
          exact p_L_law_1174 F (b_L_law_18 F n) (fun a0 a1 a2 a3 a4 r hyp => ih a0 a1 a2 a3 a4 r hyp) _ _ _ _ _ r hyp
        · replace hyp := (if_neg c119).symm.trans hyp
          refine rt_st (pc1 := 454) (fun _ _ B => go_icmp_eq_f d_L_law_450 rfl c119 (go_iconst (v := (0 : Int32)) d_L_law_453 (by decide) B)) ?_
          exact rt_eqW Value.int hyp (rt_bool d_L_law_454 rfl (by decide))
      replace hyp := (if_neg c106).symm.trans hyp
      by_cases c120 : (x4 &&& (63 : Int32)) = (9 : Int32)
      · replace hyp := (if_pos c120).symm.trans hyp
        obtain ⟨x121, e122, hyp⟩ := Option.bind_eq_some_iff.mp hyp
        obtain ⟨x123, e124, hyp⟩ := Option.bind_eq_some_iff.mp hyp
        obtain ⟨x125, e126, hyp⟩ := Option.bind_eq_some_iff.mp hyp
        obtain ⟨x127, e128, hyp⟩ := Option.bind_eq_some_iff.mp hyp
        refine rt_st (pc1 := 473) (fun _ _ B => go_tsw 455 d_L_law_33 (by decide) (by rw [c120]; decide) (go_aload_n 1 d_L_law_455 rfl (go_aload_n 0 d_L_law_456 rfl (go_iload_n 3 d_L_law_457 rfl (go_iconst (v := (1 : Int32)) d_L_law_458 (by decide) (go_iadd d_L_law_459 (go_iald d_L_law_460 e122 (go_callV1 (q := q_10) (st := []) [.int x121] (t_C_laden v1 x121 h _ (onc_spec e124).2) mm_C_laden (by decide) d_L_law_461 (onc_spec e124).1 rfl rfl w648 w649 w650 rfl (Nat.le_of_ble_eq_true rfl) rfl (go_aload_n 2 d_L_law_464 rfl (go_aload_n 0 d_L_law_465 rfl (go_iload_n 3 d_L_law_466 rfl (go_iconst (v := (1 : Int32)) d_L_law_467 (by decide) (go_iadd d_L_law_468 (go_iald d_L_law_469 e126 (go_callV1 (q := q_11) (st := [.int x123.1]) [.int x125] (t_M_laden F v2 x125 x123.2 _ (onc_spec e128).2) mm_M_laden (by decide) d_L_law_470 (onc_spec e128).1 rfl rfl w1204 w1205 w1206 rfl (Nat.le_of_ble_eq_true rfl) rfl B))))))))))))))) ?_
        by_cases c129 : x123.1 = x127.1
        · replace hyp := (if_pos c129).symm.trans hyp
          refine rt_st (pc1 := 1174) (fun _ _ B => go_icmp_eq_t 1174 d_L_law_473 rfl c129 B) ?_
          exact p_L_law_1174 F (b_L_law_18 F n) (fun a0 a1 a2 a3 a4 r hyp => ih a0 a1 a2 a3 a4 r hyp) _ _ _ _ _ r hyp
        · replace hyp := (if_neg c129).symm.trans hyp
          refine rt_st (pc1 := 477) (fun _ _ B => go_icmp_eq_f d_L_law_473 rfl c129 (go_iconst (v := (0 : Int32)) d_L_law_476 (by decide) B)) ?_
          exact rt_eqW Value.int hyp (rt_bool d_L_law_477 rfl (by decide))
      replace hyp := (if_neg c120).symm.trans hyp
      by_cases c130 : (x4 &&& (63 : Int32)) = (10 : Int32)
      · replace hyp := (if_pos c130).symm.trans hyp
        obtain ⟨x131, e132, hyp⟩ := Option.bind_eq_some_iff.mp hyp
        obtain ⟨x133, e134, hyp⟩ := Option.bind_eq_some_iff.mp hyp
        obtain ⟨x135, e136, hyp⟩ := Option.bind_eq_some_iff.mp hyp
        obtain ⟨x137, e138, hyp⟩ := Option.bind_eq_some_iff.mp hyp
        obtain ⟨x139, e140, hyp⟩ := Option.bind_eq_some_iff.mp hyp
        obtain ⟨x141, e142, hyp⟩ := Option.bind_eq_some_iff.mp hyp
        refine rt_st (pc1 := 506) (fun _ _ B => go_tsw 478 d_L_law_33 (by decide) (by rw [c130]; decide) (go_aload_n 1 d_L_law_478 rfl (go_aload_n 0 d_L_law_479 rfl (go_iload_n 3 d_L_law_480 rfl (go_iconst (v := (1 : Int32)) d_L_law_481 (by decide) (go_iadd d_L_law_482 (go_iald d_L_law_483 e132 (go_aload_n 0 d_L_law_484 rfl (go_iload_n 3 d_L_law_485 rfl (go_iconst (v := (2 : Int32)) d_L_law_486 (by decide) (go_iadd d_L_law_487 (go_iald d_L_law_488 e134 (go_callV1 (q := q_10) (st := []) [.int x131, .int x133] (t_C_moor v1 x131 x133 h _ (onc_spec e136).2) mm_C_moor (by decide) d_L_law_489 (onc_spec e136).1 rfl rfl w653 w654 w655 rfl (Nat.le_of_ble_eq_true rfl) rfl (go_aload_n 2 d_L_law_492 rfl (go_aload_n 0 d_L_law_493 rfl (go_iload_n 3 d_L_law_494 rfl (go_iconst (v := (1 : Int32)) d_L_law_495 (by decide) (go_iadd d_L_law_496 (go_iald d_L_law_497 e138 (go_aload_n 0 d_L_law_498 rfl (go_iload_n 3 d_L_law_499 rfl (go_iconst (v := (2 : Int32)) d_L_law_500 (by decide) (go_iadd d_L_law_501 (go_iald d_L_law_502 e140 (go_callV1 (q := q_11) (st := [.int x135.1]) [.int x137, .int x139] (t_M_moor F v2 x137 x139 x135.2 _ (onc_spec e142).2) mm_M_moor (by decide) d_L_law_503 (onc_spec e142).1 rfl rfl w1208 w1209 w1210 rfl (Nat.le_of_ble_eq_true rfl) rfl B))))))))))))))))))))))))) ?_
        by_cases c143 : x135.1 = x141.1
        · replace hyp := (if_pos c143).symm.trans hyp
          refine rt_st (pc1 := 1174) (fun _ _ B => go_icmp_eq_t 1174 d_L_law_506 rfl c143 B) ?_
          exact p_L_law_1174 F (b_L_law_18 F n) (fun a0 a1 a2 a3 a4 r hyp => ih a0 a1 a2 a3 a4 r hyp) _ _ _ _ _ r hyp
        · replace hyp := (if_neg c143).symm.trans hyp
          refine rt_st (pc1 := 510) (fun _ _ B => go_icmp_eq_f d_L_law_506 rfl c143 (go_iconst (v := (0 : Int32)) d_L_law_509 (by decide) B)) ?_
          exact rt_eqW Value.int hyp (rt_bool d_L_law_510 rfl (by decide))
      replace hyp := (if_neg c130).symm.trans hyp
      by_cases c144 : (x4 &&& (63 : Int32)) = (11 : Int32)
      · replace hyp := (if_pos c144).symm.trans hyp
        obtain ⟨x145, e146, hyp⟩ := Option.bind_eq_some_iff.mp hyp
        obtain ⟨x147, e148, hyp⟩ := Option.bind_eq_some_iff.mp hyp
        refine rt_st (pc1 := 519) (fun _ _ B => go_tsw 511 d_L_law_33 (by decide) (by rw [c144]; decide) (go_aload_n 1 d_L_law_511 rfl (go_callV1 (q := q_10) (st := []) [] (t_C_silt F v1 h _ (onc_spec e146).2) mm_C_silt (by decide) d_L_law_512 (onc_spec e146).1 rfl rfl w671 w672 w673 rfl (Nat.le_of_ble_eq_true rfl) rfl (go_aload_n 2 d_L_law_515 rfl (go_callV1 (q := q_11) (st := [.int x145.1]) [] (t_M_silt F v2 x145.2 _ (onc_spec e148).2) mm_M_silt (by decide) d_L_law_516 (onc_spec e148).1 rfl rfl w1216 w1217 w1218 rfl (Nat.le_of_ble_eq_true rfl) rfl B))))) ?_
        by_cases c149 : x145.1 = x147.1
        · replace hyp := (if_pos c149).symm.trans hyp
          refine rt_st (pc1 := 1174) (fun _ _ B => go_icmp_eq_t 1174 d_L_law_519 rfl c149 B) ?_
          exact p_L_law_1174 F (b_L_law_18 F n) (fun a0 a1 a2 a3 a4 r hyp => ih a0 a1 a2 a3 a4 r hyp) _ _ _ _ _ r hyp
        · replace hyp := (if_neg c149).symm.trans hyp
          refine rt_st (pc1 := 523) (fun _ _ B => go_icmp_eq_f d_L_law_519 rfl c149 (go_iconst (v := (0 : Int32)) d_L_law_522 (by decide) B)) ?_
          exact rt_eqW Value.int hyp (rt_bool d_L_law_523 rfl (by decide))
      replace hyp := (if_neg c144).symm.trans hyp
      by_cases c150 : (x4 &&& (63 : Int32)) = (12 : Int32)
      · replace hyp := (if_pos c150).symm.trans hyp
        obtain ⟨x151, e152, hyp⟩ := Option.bind_eq_some_iff.mp hyp
        obtain ⟨x153, e154, hyp⟩ := Option.bind_eq_some_iff.mp hyp
        obtain ⟨x155, e156, hyp⟩ := Option.bind_eq_some_iff.mp hyp
        obtain ⟨x157, e158, hyp⟩ := Option.bind_eq_some_iff.mp hyp
        refine rt_st (pc1 := 542) (fun _ _ B => go_tsw 524 d_L_law_33 (by decide) (by rw [c150]; decide) (go_aload_n 1 d_L_law_524 rfl (go_aload_n 0 d_L_law_525 rfl (go_iload_n 3 d_L_law_526 rfl (go_iconst (v := (1 : Int32)) d_L_law_527 (by decide) (go_iadd d_L_law_528 (go_iald d_L_law_529 e152 (go_callV1 (q := q_10) (st := []) [.int x151] (t_C_boat v1 x151 h _ (onc_spec e154).2) mm_C_boat (by decide) d_L_law_530 (onc_spec e154).1 rfl rfl w683 w684 w685 rfl (Nat.le_of_ble_eq_true rfl) rfl (go_aload_n 2 d_L_law_533 rfl (go_aload_n 0 d_L_law_534 rfl (go_iload_n 3 d_L_law_535 rfl (go_iconst (v := (1 : Int32)) d_L_law_536 (by decide) (go_iadd d_L_law_537 (go_iald d_L_law_538 e156 (go_callV1 (q := q_11) (st := [.int x153]) [.int x155] (t_M_boat F v2 x155 h _ (onc_spec e158).2) mm_M_boat (by decide) d_L_law_539 (onc_spec e158).1 rfl rfl w1227 w1228 w1229 rfl (Nat.le_of_ble_eq_true rfl) rfl B))))))))))))))) ?_
        by_cases c159 : x153 = x157.1
        · replace hyp := (if_pos c159).symm.trans hyp
          refine rt_st (pc1 := 1174) (fun _ _ B => go_icmp_eq_t 1174 d_L_law_542 rfl c159 B) ?_
          exact p_L_law_1174 F (b_L_law_18 F n) (fun a0 a1 a2 a3 a4 r hyp => ih a0 a1 a2 a3 a4 r hyp) _ _ _ _ _ r hyp
        · replace hyp := (if_neg c159).symm.trans hyp
          refine rt_st (pc1 := 546) (fun _ _ B => go_icmp_eq_f d_L_law_542 rfl c159 (go_iconst (v := (0 : Int32)) d_L_law_545 (by decide) B)) ?_
          exact rt_eqW Value.int hyp (rt_bool d_L_law_546 rfl (by decide))
      replace hyp := (if_neg c150).symm.trans hyp
      by_cases c160 : (x4 &&& (63 : Int32)) = (13 : Int32)
      · replace hyp := (if_pos c160).symm.trans hyp
        obtain ⟨x161, e162, hyp⟩ := Option.bind_eq_some_iff.mp hyp
        obtain ⟨x163, e164, hyp⟩ := Option.bind_eq_some_iff.mp hyp
        obtain ⟨x165, e166, hyp⟩ := Option.bind_eq_some_iff.mp hyp
        obtain ⟨x167, e168, hyp⟩ := Option.bind_eq_some_iff.mp hyp
        obtain ⟨x169, e170, hyp⟩ := Option.bind_eq_some_iff.mp hyp
        obtain ⟨x171, e172, hyp⟩ := Option.bind_eq_some_iff.mp hyp
        refine rt_st (pc1 := 575) (fun _ _ B => go_tsw 547 d_L_law_33 (by decide) (by rw [c160]; decide) (go_aload_n 1 d_L_law_547 rfl (go_aload_n 0 d_L_law_548 rfl (go_iload_n 3 d_L_law_549 rfl (go_iconst (v := (1 : Int32)) d_L_law_550 (by decide) (go_iadd d_L_law_551 (go_iald d_L_law_552 e162 (go_aload_n 0 d_L_law_553 rfl (go_iload_n 3 d_L_law_554 rfl (go_iconst (v := (2 : Int32)) d_L_law_555 (by decide) (go_iadd d_L_law_556 (go_iald d_L_law_557 e164 (go_callV1 (q := q_10) (st := []) [.int x161, .int x163] (t_C_cell v1 x161 x163 h _ (onc_spec e166).2) mm_C_cell (by decide) d_L_law_558 (onc_spec e166).1 rfl rfl w687 w688 w689 rfl (Nat.le_of_ble_eq_true rfl) rfl (go_aload_n 2 d_L_law_561 rfl (go_aload_n 0 d_L_law_562 rfl (go_iload_n 3 d_L_law_563 rfl (go_iconst (v := (1 : Int32)) d_L_law_564 (by decide) (go_iadd d_L_law_565 (go_iald d_L_law_566 e168 (go_aload_n 0 d_L_law_567 rfl (go_iload_n 3 d_L_law_568 rfl (go_iconst (v := (2 : Int32)) d_L_law_569 (by decide) (go_iadd d_L_law_570 (go_iald d_L_law_571 e170 (go_callV1 (q := q_11) (st := [.int x165]) [.int x167, .int x169] (t_M_cell v2 x167 x169 h _ (onc_spec e172).2) mm_M_cell (by decide) d_L_law_572 (onc_spec e172).1 rfl rfl w1231 w1232 w1233 rfl (Nat.le_of_ble_eq_true rfl) rfl B))))))))))))))))))))))))) ?_
        by_cases c173 : x165 = x171.1
        · replace hyp := (if_pos c173).symm.trans hyp
          refine rt_st (pc1 := 1174) (fun _ _ B => go_icmp_eq_t 1174 d_L_law_575 rfl c173 B) ?_
          exact p_L_law_1174 F (b_L_law_18 F n) (fun a0 a1 a2 a3 a4 r hyp => ih a0 a1 a2 a3 a4 r hyp) _ _ _ _ _ r hyp
        · replace hyp := (if_neg c173).symm.trans hyp
          refine rt_st (pc1 := 579) (fun _ _ B => go_icmp_eq_f d_L_law_575 rfl c173 (go_iconst (v := (0 : Int32)) d_L_law_578 (by decide) B)) ?_
          exact rt_eqW Value.int hyp (rt_bool d_L_law_579 rfl (by decide))
      replace hyp := (if_neg c160).symm.trans hyp
      by_cases c174 : (x4 &&& (63 : Int32)) = (14 : Int32)
      · replace hyp := (if_pos c174).symm.trans hyp
        obtain ⟨x175, e176, hyp⟩ := Option.bind_eq_some_iff.mp hyp
        obtain ⟨x177, e178, hyp⟩ := Option.bind_eq_some_iff.mp hyp
        obtain ⟨x179, e180, hyp⟩ := Option.bind_eq_some_iff.mp hyp
        obtain ⟨x181, e182, hyp⟩ := Option.bind_eq_some_iff.mp hyp
        obtain ⟨x183, e184, hyp⟩ := Option.bind_eq_some_iff.mp hyp
        obtain ⟨x185, e186, hyp⟩ := Option.bind_eq_some_iff.mp hyp
        refine rt_st (pc1 := 608) (fun _ _ B => go_tsw 580 d_L_law_33 (by decide) (by rw [c174]; decide) (go_aload_n 1 d_L_law_580 rfl (go_aload_n 0 d_L_law_581 rfl (go_iload_n 3 d_L_law_582 rfl (go_iconst (v := (1 : Int32)) d_L_law_583 (by decide) (go_iadd d_L_law_584 (go_iald d_L_law_585 e176 (go_aload_n 0 d_L_law_586 rfl (go_iload_n 3 d_L_law_587 rfl (go_iconst (v := (2 : Int32)) d_L_law_588 (by decide) (go_iadd d_L_law_589 (go_iald d_L_law_590 e178 (go_callV1 (q := q_10) (st := []) [.int x175, .int x177] (t_C_hand v1 x175 x177 h _ (onc_spec e180).2) mm_C_hand (by decide) d_L_law_591 (onc_spec e180).1 rfl rfl w692 w693 w694 rfl (Nat.le_of_ble_eq_true rfl) rfl (go_aload_n 2 d_L_law_594 rfl (go_aload_n 0 d_L_law_595 rfl (go_iload_n 3 d_L_law_596 rfl (go_iconst (v := (1 : Int32)) d_L_law_597 (by decide) (go_iadd d_L_law_598 (go_iald d_L_law_599 e182 (go_aload_n 0 d_L_law_600 rfl (go_iload_n 3 d_L_law_601 rfl (go_iconst (v := (2 : Int32)) d_L_law_602 (by decide) (go_iadd d_L_law_603 (go_iald d_L_law_604 e184 (go_callV1 (q := q_11) (st := [.int x179]) [.int x181, .int x183] (t_M_hand v2 x181 x183 h _ (onc_spec e186).2) mm_M_hand (by decide) d_L_law_605 (onc_spec e186).1 rfl rfl w1235 w1236 w1237 rfl (Nat.le_of_ble_eq_true rfl) rfl B))))))))))))))))))))))))) ?_
        by_cases c187 : x179 = x185.1
        · replace hyp := (if_pos c187).symm.trans hyp
          refine rt_st (pc1 := 1174) (fun _ _ B => go_icmp_eq_t 1174 d_L_law_608 rfl c187 B) ?_
          exact p_L_law_1174 F (b_L_law_18 F n) (fun a0 a1 a2 a3 a4 r hyp => ih a0 a1 a2 a3 a4 r hyp) _ _ _ _ _ r hyp
        · replace hyp := (if_neg c187).symm.trans hyp
          refine rt_st (pc1 := 612) (fun _ _ B => go_icmp_eq_f d_L_law_608 rfl c187 (go_iconst (v := (0 : Int32)) d_L_law_611 (by decide) B)) ?_
          exact rt_eqW Value.int hyp (rt_bool d_L_law_612 rfl (by decide))
      replace hyp := (if_neg c174).symm.trans hyp
      by_cases c188 : (x4 &&& (63 : Int32)) = (15 : Int32)
      · replace hyp := (if_pos c188).symm.trans hyp
        obtain ⟨x189, e190, hyp⟩ := Option.bind_eq_some_iff.mp hyp
        obtain ⟨x191, e192, hyp⟩ := Option.bind_eq_some_iff.mp hyp
        obtain ⟨x193, e194, hyp⟩ := Option.bind_eq_some_iff.mp hyp
        obtain ⟨x195, e196, hyp⟩ := Option.bind_eq_some_iff.mp hyp
        obtain ⟨x197, e198, hyp⟩ := Option.bind_eq_some_iff.mp hyp
        obtain ⟨x199, e200, hyp⟩ := Option.bind_eq_some_iff.mp hyp
        obtain ⟨x201, e202, hyp⟩ := Option.bind_eq_some_iff.mp hyp
        obtain ⟨x203, e204, hyp⟩ := Option.bind_eq_some_iff.mp hyp
        refine rt_st (pc1 := 651) (fun _ _ B => go_tsw 613 d_L_law_33 (by decide) (by rw [c188]; decide) (go_aload_n 1 d_L_law_613 rfl (go_aload_n 0 d_L_law_614 rfl (go_iload_n 3 d_L_law_615 rfl (go_iconst (v := (1 : Int32)) d_L_law_616 (by decide) (go_iadd d_L_law_617 (go_iald d_L_law_618 e190 (go_aload_n 0 d_L_law_619 rfl (go_iload_n 3 d_L_law_620 rfl (go_iconst (v := (2 : Int32)) d_L_law_621 (by decide) (go_iadd d_L_law_622 (go_iald d_L_law_623 e192 (go_aload_n 0 d_L_law_624 rfl (go_iload_n 3 d_L_law_625 rfl (go_iconst (v := (3 : Int32)) d_L_law_626 (by decide) (go_iadd d_L_law_627 (go_iald d_L_law_628 e194 (go_callV1 (q := q_10) (st := []) [.int x189, .int x191, .int x193] (t_C_way F v1 x189 x191 x193 h _ (onc_spec e196).2) mm_C_way (by decide) d_L_law_629 (onc_spec e196).1 rfl rfl w696 w697 w698 rfl (Nat.le_of_ble_eq_true rfl) rfl (go_aload_n 2 d_L_law_632 rfl (go_aload_n 0 d_L_law_633 rfl (go_iload_n 3 d_L_law_634 rfl (go_iconst (v := (1 : Int32)) d_L_law_635 (by decide) (go_iadd d_L_law_636 (go_iald d_L_law_637 e198 (go_aload_n 0 d_L_law_638 rfl (go_iload_n 3 d_L_law_639 rfl (go_iconst (v := (2 : Int32)) d_L_law_640 (by decide) (go_iadd d_L_law_641 (go_iald d_L_law_642 e200 (go_aload_n 0 d_L_law_643 rfl (go_iload_n 3 d_L_law_644 rfl (go_iconst (v := (3 : Int32)) d_L_law_645 (by decide) (go_iadd d_L_law_646 (go_iald d_L_law_647 e202 (go_callV1 (q := q_11) (st := [.int x195.1]) [.int x197, .int x199, .int x201] (t_M_way F v2 x197 x199 x201 x195.2 _ (onc_spec e204).2) mm_M_way (by decide) d_L_law_648 (onc_spec e204).1 rfl rfl w1240 w1241 w1242 rfl (Nat.le_of_ble_eq_true rfl) rfl B))))))))))))))))))))))))))))))))))) ?_
        by_cases c205 : x195.1 = x203.1
        · replace hyp := (if_pos c205).symm.trans hyp
          refine rt_st (pc1 := 1174) (fun _ _ B => go_icmp_eq_t 1174 d_L_law_651 rfl c205 B) ?_
          exact p_L_law_1174 F (b_L_law_18 F n) (fun a0 a1 a2 a3 a4 r hyp => ih a0 a1 a2 a3 a4 r hyp) _ _ _ _ _ r hyp
        · replace hyp := (if_neg c205).symm.trans hyp
          refine rt_st (pc1 := 655) (fun _ _ B => go_icmp_eq_f d_L_law_651 rfl c205 (go_iconst (v := (0 : Int32)) d_L_law_654 (by decide) B)) ?_
          exact rt_eqW Value.int hyp (rt_bool d_L_law_655 rfl (by decide))
      replace hyp := (if_neg c188).symm.trans hyp
      by_cases c206 : (x4 &&& (63 : Int32)) = (16 : Int32)
      · replace hyp := (if_pos c206).symm.trans hyp
        obtain ⟨x207, e208, hyp⟩ := Option.bind_eq_some_iff.mp hyp
        obtain ⟨x209, e210, hyp⟩ := Option.bind_eq_some_iff.mp hyp
        obtain ⟨x211, e212, hyp⟩ := Option.bind_eq_some_iff.mp hyp
        obtain ⟨x213, e214, hyp⟩ := Option.bind_eq_some_iff.mp hyp
        refine rt_st (pc1 := 674) (fun _ _ B => go_tsw 656 d_L_law_33 (by decide) (by rw [c206]; decide) (go_aload_n 1 d_L_law_656 rfl (go_aload_n 0 d_L_law_657 rfl (go_iload_n 3 d_L_law_658 rfl (go_iconst (v := (1 : Int32)) d_L_law_659 (by decide) (go_iadd d_L_law_660 (go_iald d_L_law_661 e208 (go_callV1 (q := q_10) (st := []) [.int x207] (t_C_turned F v1 x207 h _ (onc_spec e210).2) mm_C_turned (by decide) d_L_law_662 (onc_spec e210).1 rfl rfl w759 w760 w761 rfl (Nat.le_of_ble_eq_true rfl) rfl (go_aload_n 2 d_L_law_665 rfl (go_aload_n 0 d_L_law_666 rfl (go_iload_n 3 d_L_law_667 rfl (go_iconst (v := (1 : Int32)) d_L_law_668 (by decide) (go_iadd d_L_law_669 (go_iald d_L_law_670 e212 (go_callV1 (q := q_11) (st := [.int x209.1]) [.int x211] (t_M_turned F v2 x211 x209.2 _ (onc_spec e214).2) mm_M_turned (by decide) d_L_law_671 (onc_spec e214).1 rfl rfl w1262 w1263 w1264 rfl (Nat.le_of_ble_eq_true rfl) rfl B))))))))))))))) ?_
        by_cases c215 : x209.1 = x213.1
        · replace hyp := (if_pos c215).symm.trans hyp
          refine rt_st (pc1 := 1174) (fun _ _ B => go_icmp_eq_t 1174 d_L_law_674 rfl c215 B) ?_
          exact p_L_law_1174 F (b_L_law_18 F n) (fun a0 a1 a2 a3 a4 r hyp => ih a0 a1 a2 a3 a4 r hyp) _ _ _ _ _ r hyp
        · replace hyp := (if_neg c215).symm.trans hyp
          refine rt_st (pc1 := 678) (fun _ _ B => go_icmp_eq_f d_L_law_674 rfl c215 (go_iconst (v := (0 : Int32)) d_L_law_677 (by decide) B)) ?_
          exact rt_eqW Value.int hyp (rt_bool d_L_law_678 rfl (by decide))
      replace hyp := (if_neg c206).symm.trans hyp
      by_cases c216 : (x4 &&& (63 : Int32)) = (17 : Int32)
      · replace hyp := (if_pos c216).symm.trans hyp
        obtain ⟨x217, e218, hyp⟩ := Option.bind_eq_some_iff.mp hyp
        obtain ⟨x219, e220, hyp⟩ := Option.bind_eq_some_iff.mp hyp
        refine rt_st (pc1 := 687) (fun _ _ B => go_tsw 679 d_L_law_33 (by decide) (by rw [c216]; decide) (go_aload_n 1 d_L_law_679 rfl (go_callV1 (q := q_10) (st := []) [] (t_C_inches F v1 h _ (onc_spec e218).2) mm_C_inches (by decide) d_L_law_680 (onc_spec e218).1 rfl rfl w769 w770 w771 rfl (Nat.le_of_ble_eq_true rfl) rfl (go_aload_n 2 d_L_law_683 rfl (go_callV1 (q := q_11) (st := [.int x217.1]) [] (t_M_inches F v2 x217.2 _ (onc_spec e220).2) mm_M_inches (by decide) d_L_law_684 (onc_spec e220).1 rfl rfl w1270 w1271 w1272 rfl (Nat.le_of_ble_eq_true rfl) rfl B))))) ?_
        by_cases c221 : x217.1 = x219.1
        · replace hyp := (if_pos c221).symm.trans hyp
          refine rt_st (pc1 := 1174) (fun _ _ B => go_icmp_eq_t 1174 d_L_law_687 rfl c221 B) ?_
          exact p_L_law_1174 F (b_L_law_18 F n) (fun a0 a1 a2 a3 a4 r hyp => ih a0 a1 a2 a3 a4 r hyp) _ _ _ _ _ r hyp
        · replace hyp := (if_neg c221).symm.trans hyp
          refine rt_st (pc1 := 691) (fun _ _ B => go_icmp_eq_f d_L_law_687 rfl c221 (go_iconst (v := (0 : Int32)) d_L_law_690 (by decide) B)) ?_
          exact rt_eqW Value.int hyp (rt_bool d_L_law_691 rfl (by decide))
      replace hyp := (if_neg c216).symm.trans hyp
      by_cases c222 : (x4 &&& (63 : Int32)) = (18 : Int32)
      · replace hyp := (if_pos c222).symm.trans hyp
        obtain ⟨x223, e224, hyp⟩ := Option.bind_eq_some_iff.mp hyp
        obtain ⟨x225, e226, hyp⟩ := Option.bind_eq_some_iff.mp hyp
        obtain ⟨x227, e228, hyp⟩ := Option.bind_eq_some_iff.mp hyp
        obtain ⟨x229, e230, hyp⟩ := Option.bind_eq_some_iff.mp hyp
        refine rt_st (pc1 := 710) (fun _ _ B => go_tsw 692 d_L_law_33 (by decide) (by rw [c222]; decide) (go_aload_n 1 d_L_law_692 rfl (go_aload_n 0 d_L_law_693 rfl (go_iload_n 3 d_L_law_694 rfl (go_iconst (v := (1 : Int32)) d_L_law_695 (by decide) (go_iadd d_L_law_696 (go_iald d_L_law_697 e224 (go_callV1 (q := q_10) (st := []) [.int x223] (t_C_inTheWay F v1 x223 h _ (onc_spec e226).2) mm_C_inTheWay (by decide) d_L_law_698 (onc_spec e226).1 rfl rfl w775 w776 w777 rfl (Nat.le_of_ble_eq_true rfl) rfl (go_aload_n 2 d_L_law_701 rfl (go_aload_n 0 d_L_law_702 rfl (go_iload_n 3 d_L_law_703 rfl (go_iconst (v := (1 : Int32)) d_L_law_704 (by decide) (go_iadd d_L_law_705 (go_iald d_L_law_706 e228 (go_callV1 (q := q_11) (st := [.int x225.1]) [.int x227] (t_M_inTheWay F v2 x227 x225.2 _ (onc_spec e230).2) mm_M_inTheWay (by decide) d_L_law_707 (onc_spec e230).1 rfl rfl w1274 w1275 w1276 rfl (Nat.le_of_ble_eq_true rfl) rfl B))))))))))))))) ?_
        by_cases c231 : x225.1 = x229.1
        · replace hyp := (if_pos c231).symm.trans hyp
          refine rt_st (pc1 := 1174) (fun _ _ B => go_icmp_eq_t 1174 d_L_law_710 rfl c231 B) ?_
          exact p_L_law_1174 F (b_L_law_18 F n) (fun a0 a1 a2 a3 a4 r hyp => ih a0 a1 a2 a3 a4 r hyp) _ _ _ _ _ r hyp
        · replace hyp := (if_neg c231).symm.trans hyp
          refine rt_st (pc1 := 714) (fun _ _ B => go_icmp_eq_f d_L_law_710 rfl c231 (go_iconst (v := (0 : Int32)) d_L_law_713 (by decide) B)) ?_
          exact rt_eqW Value.int hyp (rt_bool d_L_law_714 rfl (by decide))
      replace hyp := (if_neg c222).symm.trans hyp
      by_cases c232 : (x4 &&& (63 : Int32)) = (19 : Int32)
      · replace hyp := (if_pos c232).symm.trans hyp
        obtain ⟨x233, e234, hyp⟩ := Option.bind_eq_some_iff.mp hyp
        obtain ⟨x235, e236, hyp⟩ := Option.bind_eq_some_iff.mp hyp
        obtain ⟨x237, e238, hyp⟩ := Option.bind_eq_some_iff.mp hyp
        obtain ⟨x239, e240, hyp⟩ := Option.bind_eq_some_iff.mp hyp
        refine rt_st (pc1 := 733) (fun _ _ B => go_tsw 715 d_L_law_33 (by decide) (by rw [c232]; decide) (go_aload_n 1 d_L_law_715 rfl (go_aload_n 0 d_L_law_716 rfl (go_iload_n 3 d_L_law_717 rfl (go_iconst (v := (1 : Int32)) d_L_law_718 (by decide) (go_iadd d_L_law_719 (go_iald d_L_law_720 e234 (go_callV1 (q := q_10) (st := []) [.int x233] (t_C_dig F v1 x233 h _ (onc_spec e236).2) mm_C_dig (by decide) d_L_law_721 (onc_spec e236).1 rfl rfl w784 w785 w786 rfl (Nat.le_of_ble_eq_true rfl) rfl (go_aload_n 2 d_L_law_724 rfl (go_aload_n 0 d_L_law_725 rfl (go_iload_n 3 d_L_law_726 rfl (go_iconst (v := (1 : Int32)) d_L_law_727 (by decide) (go_iadd d_L_law_728 (go_iald d_L_law_729 e238 (go_callV1 (q := q_11) (st := [.int x235.1]) [.int x237] (t_M_dig F v2 x237 x235.2 _ (onc_spec e240).2) mm_M_dig (by decide) d_L_law_730 (onc_spec e240).1 rfl rfl w1278 w1279 w1280 rfl (Nat.le_of_ble_eq_true rfl) rfl B))))))))))))))) ?_
        by_cases c241 : x235.1 = x239.1
        · replace hyp := (if_pos c241).symm.trans hyp
          refine rt_st (pc1 := 1174) (fun _ _ B => go_icmp_eq_t 1174 d_L_law_733 rfl c241 B) ?_
          exact p_L_law_1174 F (b_L_law_18 F n) (fun a0 a1 a2 a3 a4 r hyp => ih a0 a1 a2 a3 a4 r hyp) _ _ _ _ _ r hyp
        · replace hyp := (if_neg c241).symm.trans hyp
          refine rt_st (pc1 := 737) (fun _ _ B => go_icmp_eq_f d_L_law_733 rfl c241 (go_iconst (v := (0 : Int32)) d_L_law_736 (by decide) B)) ?_
          exact rt_eqW Value.int hyp (rt_bool d_L_law_737 rfl (by decide))
      replace hyp := (if_neg c232).symm.trans hyp
      by_cases c242 : (x4 &&& (63 : Int32)) = (20 : Int32)
      · replace hyp := (if_pos c242).symm.trans hyp
        obtain ⟨x243, e244, hyp⟩ := Option.bind_eq_some_iff.mp hyp
        obtain ⟨x245, e246, hyp⟩ := Option.bind_eq_some_iff.mp hyp
        refine rt_st (pc1 := 746) (fun _ _ B => go_tsw 738 d_L_law_33 (by decide) (by rw [c242]; decide) (go_aload_n 1 d_L_law_738 rfl (go_callV1 (q := q_10) (st := []) [] (t_C_years F v1 h _ (onc_spec e244).2) mm_C_years (by decide) d_L_law_739 (onc_spec e244).1 rfl rfl w788 w789 w790 rfl (Nat.le_of_ble_eq_true rfl) rfl (go_aload_n 2 d_L_law_742 rfl (go_callV1 (q := q_11) (st := [.int x243.1]) [] (t_M_years F v2 x243.2 _ (onc_spec e246).2) mm_M_years (by decide) d_L_law_743 (onc_spec e246).1 rfl rfl w1282 w1283 w1284 rfl (Nat.le_of_ble_eq_true rfl) rfl B))))) ?_
        by_cases c247 : x243.1 = x245.1
        · replace hyp := (if_pos c247).symm.trans hyp
          refine rt_st (pc1 := 1174) (fun _ _ B => go_icmp_eq_t 1174 d_L_law_746 rfl c247 B) ?_
          exact p_L_law_1174 F (b_L_law_18 F n) (fun a0 a1 a2 a3 a4 r hyp => ih a0 a1 a2 a3 a4 r hyp) _ _ _ _ _ r hyp
        · replace hyp := (if_neg c247).symm.trans hyp
          refine rt_st (pc1 := 750) (fun _ _ B => go_icmp_eq_f d_L_law_746 rfl c247 (go_iconst (v := (0 : Int32)) d_L_law_749 (by decide) B)) ?_
          exact rt_eqW Value.int hyp (rt_bool d_L_law_750 rfl (by decide))
      replace hyp := (if_neg c242).symm.trans hyp
      by_cases c248 : (x4 &&& (63 : Int32)) = (21 : Int32)
      · replace hyp := (if_pos c248).symm.trans hyp
        obtain ⟨x249, e250, hyp⟩ := Option.bind_eq_some_iff.mp hyp
        obtain ⟨x251, e252, hyp⟩ := Option.bind_eq_some_iff.mp hyp
        refine rt_st (pc1 := 759) (fun _ _ B => go_tsw 751 d_L_law_33 (by decide) (by rw [c248]; decide) (go_aload_n 1 d_L_law_751 rfl (go_callV1 (q := q_10) (st := []) [] (t_C_better F v1 h _ (onc_spec e250).2) mm_C_better (by decide) d_L_law_752 (onc_spec e250).1 rfl rfl w792 w793 w794 rfl (Nat.le_of_ble_eq_true rfl) rfl (go_aload_n 2 d_L_law_755 rfl (go_callV1 (q := q_11) (st := [.int x249.1]) [] (t_M_better F v2 x249.2 _ (onc_spec e252).2) mm_M_better (by decide) d_L_law_756 (onc_spec e252).1 rfl rfl w1286 w1287 w1288 rfl (Nat.le_of_ble_eq_true rfl) rfl B))))) ?_
        by_cases c253 : x249.1 = x251.1
        · replace hyp := (if_pos c253).symm.trans hyp
          refine rt_st (pc1 := 1174) (fun _ _ B => go_icmp_eq_t 1174 d_L_law_759 rfl c253 B) ?_
          exact p_L_law_1174 F (b_L_law_18 F n) (fun a0 a1 a2 a3 a4 r hyp => ih a0 a1 a2 a3 a4 r hyp) _ _ _ _ _ r hyp
        · replace hyp := (if_neg c253).symm.trans hyp
          refine rt_st (pc1 := 763) (fun _ _ B => go_icmp_eq_f d_L_law_759 rfl c253 (go_iconst (v := (0 : Int32)) d_L_law_762 (by decide) B)) ?_
          exact rt_eqW Value.int hyp (rt_bool d_L_law_763 rfl (by decide))
      replace hyp := (if_neg c248).symm.trans hyp
      by_cases c254 : (x4 &&& (63 : Int32)) = (22 : Int32)
      · replace hyp := (if_pos c254).symm.trans hyp
        obtain ⟨x255, e256, hyp⟩ := Option.bind_eq_some_iff.mp hyp
        obtain ⟨x257, e258, hyp⟩ := Option.bind_eq_some_iff.mp hyp
        obtain ⟨x259, e260, hyp⟩ := Option.bind_eq_some_iff.mp hyp
        obtain ⟨x261, e262, hyp⟩ := Option.bind_eq_some_iff.mp hyp
        obtain ⟨x263, e264, hyp⟩ := Option.bind_eq_some_iff.mp hyp
        obtain ⟨x265, e266, hyp⟩ := Option.bind_eq_some_iff.mp hyp
        obtain ⟨x267, e268, hyp⟩ := Option.bind_eq_some_iff.mp hyp
        obtain ⟨x269, e270, hyp⟩ := Option.bind_eq_some_iff.mp hyp
        refine rt_st (pc1 := 806) (fun _ _ B => go_tsw 764 d_L_law_33 (by decide) (by rw [c254]; decide) (go_aload_n 1 d_L_law_764 rfl (go_aload_n 0 d_L_law_765 rfl (go_iload_n 3 d_L_law_766 rfl (go_iconst (v := (1 : Int32)) d_L_law_767 (by decide) (go_iadd d_L_law_768 (go_iald d_L_law_769 e256 (go_aload_n 0 d_L_law_770 rfl (go_iload_n 3 d_L_law_771 rfl (go_iconst (v := (2 : Int32)) d_L_law_772 (by decide) (go_iadd d_L_law_773 (go_iald d_L_law_774 e258 (go_aload_n 0 d_L_law_775 rfl (go_iload_n 3 d_L_law_776 rfl (go_iconst (v := (3 : Int32)) d_L_law_777 (by decide) (go_iadd d_L_law_778 (go_iald d_L_law_779 e260 (go_aload_n 0 d_L_law_780 rfl (go_iload_n 3 d_L_law_781 rfl (go_iconst (v := (4 : Int32)) d_L_law_782 (by decide) (go_iadd d_L_law_783 (go_iald d_L_law_784 e262 (go_callV1 (q := q_10) (st := []) [.int x255, .int x257, .int x259, .int x261] (t_C_plan F v1 x255 x257 x259 x261 h _ (onc_spec e264).2) mm_C_plan (by decide) d_L_law_785 (onc_spec e264).1 rfl rfl w800 w801 w802 rfl (Nat.le_of_ble_eq_true rfl) rfl (go_aload_n 2 d_L_law_788 rfl (go_aload_n 0 d_L_law_789 rfl (go_iload_n 3 d_L_law_790 rfl (go_iconst (v := (1 : Int32)) d_L_law_791 (by decide) (go_iadd d_L_law_792 (go_iald d_L_law_793 e266 (go_aload_n 0 d_L_law_794 rfl (go_iload_n 3 d_L_law_795 rfl (go_iconst (v := (2 : Int32)) d_L_law_796 (by decide) (go_iadd d_L_law_797 (go_iald d_L_law_798 e268 (go_aload_n 0 d_L_law_799 rfl (go_iload_n 3 d_L_law_800 rfl (go_iconst (v := (3 : Int32)) d_L_law_801 (by decide) (go_iadd d_L_law_802 (go_iald d_L_law_803 e270 (go_aload_n 0 d_L_law_804 rfl (go_iload_n 3 d_L_law_805 rfl B))))))))))))))))))))))))))))))))))))))))) ?_
        obtain ⟨x271, e272, hyp⟩ := Option.bind_eq_some_iff.mp hyp
        obtain ⟨x273, e274, hyp⟩ := Option.bind_eq_some_iff.mp hyp
        refine rt_st (pc1 := 812) (fun _ _ B => go_iconst (v := (4 : Int32)) d_L_law_806 (by decide) (go_iadd d_L_law_807 (go_iald d_L_law_808 e272 (go_callV1 (q := q_11) (st := [.int x263.1]) [.int x265, .int x267, .int x269, .int x271] (t_M_plan F v2 x265 x267 x269 x271 x263.2 _ (onc_spec e274).2) mm_M_plan (by decide) d_L_law_809 (onc_spec e274).1 rfl rfl w1290 w1291 w1292 rfl (Nat.le_of_ble_eq_true rfl) rfl B)))) ?_
        by_cases c275 : x263.1 = x273.1
        · replace hyp := (if_pos c275).symm.trans hyp
          refine rt_st (pc1 := 1174) (fun _ _ B => go_icmp_eq_t 1174 d_L_law_812 rfl c275 B) ?_
          exact p_L_law_1174 F (b_L_law_18 F n) (fun a0 a1 a2 a3 a4 r hyp => ih a0 a1 a2 a3 a4 r hyp) _ _ _ _ _ r hyp
        · replace hyp := (if_neg c275).symm.trans hyp
          refine rt_st (pc1 := 816) (fun _ _ B => go_icmp_eq_f d_L_law_812 rfl c275 (go_iconst (v := (0 : Int32)) d_L_law_815 (by decide) B)) ?_
          exact rt_eqW Value.int hyp (rt_bool d_L_law_816 rfl (by decide))
      replace hyp := (if_neg c254).symm.trans hyp
      by_cases c276 : (x4 &&& (63 : Int32)) = (23 : Int32)
      · replace hyp := (if_pos c276).symm.trans hyp
        obtain ⟨x277, e278, hyp⟩ := Option.bind_eq_some_iff.mp hyp
        obtain ⟨x279, e280, hyp⟩ := Option.bind_eq_some_iff.mp hyp
        obtain ⟨x281, e282, hyp⟩ := Option.bind_eq_some_iff.mp hyp
        obtain ⟨x283, e284, hyp⟩ := Option.bind_eq_some_iff.mp hyp
        obtain ⟨x285, e286, hyp⟩ := Option.bind_eq_some_iff.mp hyp
        obtain ⟨x287, e288, hyp⟩ := Option.bind_eq_some_iff.mp hyp
        obtain ⟨x289, e290, hyp⟩ := Option.bind_eq_some_iff.mp hyp
        obtain ⟨x291, e292, hyp⟩ := Option.bind_eq_some_iff.mp hyp
        refine rt_st (pc1 := 859) (fun _ _ B => go_tsw 817 d_L_law_33 (by decide) (by rw [c276]; decide) (go_aload_n 1 d_L_law_817 rfl (go_aload_n 0 d_L_law_818 rfl (go_iload_n 3 d_L_law_819 rfl (go_iconst (v := (1 : Int32)) d_L_law_820 (by decide) (go_iadd d_L_law_821 (go_iald d_L_law_822 e278 (go_aload_n 0 d_L_law_823 rfl (go_iload_n 3 d_L_law_824 rfl (go_iconst (v := (2 : Int32)) d_L_law_825 (by decide) (go_iadd d_L_law_826 (go_iald d_L_law_827 e280 (go_aload_n 0 d_L_law_828 rfl (go_iload_n 3 d_L_law_829 rfl (go_iconst (v := (3 : Int32)) d_L_law_830 (by decide) (go_iadd d_L_law_831 (go_iald d_L_law_832 e282 (go_aload_n 0 d_L_law_833 rfl (go_iload_n 3 d_L_law_834 rfl (go_iconst (v := (4 : Int32)) d_L_law_835 (by decide) (go_iadd d_L_law_836 (go_iald d_L_law_837 e284 (go_callV1 (q := q_10) (st := []) [.int x277, .int x279, .int x281, .int x283] (t_C_seen F v1 x277 x279 x281 x283 h _ (onc_spec e286).2) mm_C_seen (by decide) d_L_law_838 (onc_spec e286).1 rfl rfl w816 w817 w818 rfl (Nat.le_of_ble_eq_true rfl) rfl (go_aload_n 2 d_L_law_841 rfl (go_aload_n 0 d_L_law_842 rfl (go_iload_n 3 d_L_law_843 rfl (go_iconst (v := (1 : Int32)) d_L_law_844 (by decide) (go_iadd d_L_law_845 (go_iald d_L_law_846 e288 (go_aload_n 0 d_L_law_847 rfl (go_iload_n 3 d_L_law_848 rfl (go_iconst (v := (2 : Int32)) d_L_law_849 (by decide) (go_iadd d_L_law_850 (go_iald d_L_law_851 e290 (go_aload_n 0 d_L_law_852 rfl (go_iload_n 3 d_L_law_853 rfl (go_iconst (v := (3 : Int32)) d_L_law_854 (by decide) (go_iadd d_L_law_855 (go_iald d_L_law_856 e292 (go_aload_n 0 d_L_law_857 rfl (go_iload_n 3 d_L_law_858 rfl B))))))))))))))))))))))))))))))))))))))))) ?_
        obtain ⟨x293, e294, hyp⟩ := Option.bind_eq_some_iff.mp hyp
        obtain ⟨x295, e296, hyp⟩ := Option.bind_eq_some_iff.mp hyp
        refine rt_st (pc1 := 865) (fun _ _ B => go_iconst (v := (4 : Int32)) d_L_law_859 (by decide) (go_iadd d_L_law_860 (go_iald d_L_law_861 e294 (go_callV1 (q := q_11) (st := [.int x285.1]) [.int x287, .int x289, .int x291, .int x293] (t_M_seen F v2 x287 x289 x291 x293 x285.2 _ (onc_spec e296).2) mm_M_seen (by decide) d_L_law_862 (onc_spec e296).1 rfl rfl w1298 w1299 w1300 rfl (Nat.le_of_ble_eq_true rfl) rfl B)))) ?_
        by_cases c297 : x285.1 = x295.1
        · replace hyp := (if_pos c297).symm.trans hyp
          refine rt_st (pc1 := 1174) (fun _ _ B => go_icmp_eq_t 1174 d_L_law_865 rfl c297 B) ?_
          exact p_L_law_1174 F (b_L_law_18 F n) (fun a0 a1 a2 a3 a4 r hyp => ih a0 a1 a2 a3 a4 r hyp) _ _ _ _ _ r hyp
        · replace hyp := (if_neg c297).symm.trans hyp
          refine rt_st (pc1 := 869) (fun _ _ B => go_icmp_eq_f d_L_law_865 rfl c297 (go_iconst (v := (0 : Int32)) d_L_law_868 (by decide) B)) ?_
          exact rt_eqW Value.int hyp (rt_bool d_L_law_869 rfl (by decide))
      replace hyp := (if_neg c276).symm.trans hyp
      by_cases c298 : (x4 &&& (63 : Int32)) = (24 : Int32)
      · replace hyp := (if_pos c298).symm.trans hyp
        obtain ⟨x299, e300, hyp⟩ := Option.bind_eq_some_iff.mp hyp
        obtain ⟨x301, e302, hyp⟩ := Option.bind_eq_some_iff.mp hyp
        obtain ⟨x303, e304, hyp⟩ := Option.bind_eq_some_iff.mp hyp
        obtain ⟨x305, e306, hyp⟩ := Option.bind_eq_some_iff.mp hyp
        obtain ⟨x307, e308, hyp⟩ := Option.bind_eq_some_iff.mp hyp
        obtain ⟨x309, e310, hyp⟩ := Option.bind_eq_some_iff.mp hyp
        obtain ⟨x311, e312, hyp⟩ := Option.bind_eq_some_iff.mp hyp
        obtain ⟨x313, e314, hyp⟩ := Option.bind_eq_some_iff.mp hyp
        refine rt_st (pc1 := 912) (fun _ _ B => go_tsw 870 d_L_law_33 (by decide) (by rw [c298]; decide) (go_aload_n 1 d_L_law_870 rfl (go_aload_n 0 d_L_law_871 rfl (go_iload_n 3 d_L_law_872 rfl (go_iconst (v := (1 : Int32)) d_L_law_873 (by decide) (go_iadd d_L_law_874 (go_iald d_L_law_875 e300 (go_aload_n 0 d_L_law_876 rfl (go_iload_n 3 d_L_law_877 rfl (go_iconst (v := (2 : Int32)) d_L_law_878 (by decide) (go_iadd d_L_law_879 (go_iald d_L_law_880 e302 (go_aload_n 0 d_L_law_881 rfl (go_iload_n 3 d_L_law_882 rfl (go_iconst (v := (3 : Int32)) d_L_law_883 (by decide) (go_iadd d_L_law_884 (go_iald d_L_law_885 e304 (go_aload_n 0 d_L_law_886 rfl (go_iload_n 3 d_L_law_887 rfl (go_iconst (v := (4 : Int32)) d_L_law_888 (by decide) (go_iadd d_L_law_889 (go_iald d_L_law_890 e306 (go_callV1 (q := q_10) (st := []) [.int x299, .int x301, .int x303, .int x305] (t_C_gusts F v1 x299 x301 x303 x305 h _ (onc_spec e308).2) mm_C_gusts (by decide) d_L_law_891 (onc_spec e308).1 rfl rfl w832 w833 w834 rfl (Nat.le_of_ble_eq_true rfl) rfl (go_aload_n 2 d_L_law_894 rfl (go_aload_n 0 d_L_law_895 rfl (go_iload_n 3 d_L_law_896 rfl (go_iconst (v := (1 : Int32)) d_L_law_897 (by decide) (go_iadd d_L_law_898 (go_iald d_L_law_899 e310 (go_aload_n 0 d_L_law_900 rfl (go_iload_n 3 d_L_law_901 rfl (go_iconst (v := (2 : Int32)) d_L_law_902 (by decide) (go_iadd d_L_law_903 (go_iald d_L_law_904 e312 (go_aload_n 0 d_L_law_905 rfl (go_iload_n 3 d_L_law_906 rfl (go_iconst (v := (3 : Int32)) d_L_law_907 (by decide) (go_iadd d_L_law_908 (go_iald d_L_law_909 e314 (go_aload_n 0 d_L_law_910 rfl (go_iload_n 3 d_L_law_911 rfl B))))))))))))))))))))))))))))))))))))))))) ?_
        obtain ⟨x315, e316, hyp⟩ := Option.bind_eq_some_iff.mp hyp
        obtain ⟨x317, e318, hyp⟩ := Option.bind_eq_some_iff.mp hyp
        refine rt_st (pc1 := 919) (fun _ _ B => go_iconst (v := (4 : Int32)) d_L_law_912 (by decide) (go_iadd d_L_law_913 (go_iald d_L_law_914 e316 (go_callV1 (q := q_11) (st := [.long x307]) [.int x309, .int x311, .int x313, .int x315] (t_M_gusts F v2 x309 x311 x313 x315 h _ (onc_spec e318).2) mm_M_gusts (by decide) d_L_law_915 (onc_spec e318).1 rfl rfl w1302 w1303 w1304 rfl (Nat.le_of_ble_eq_true rfl) rfl (go_lcmp d_L_law_918 B))))) ?_
        by_cases c319 : (lg_cmp x307 x317.1) = 0
        · replace hyp := (if_pos c319).symm.trans hyp
          refine rt_st (pc1 := 1174) (fun _ _ B => go_if_eq_t 1174 d_L_law_919 rfl c319 B) ?_
          exact p_L_law_1174 F (b_L_law_18 F n) (fun a0 a1 a2 a3 a4 r hyp => ih a0 a1 a2 a3 a4 r hyp) _ _ _ _ _ r hyp
        · replace hyp := (if_neg c319).symm.trans hyp
          refine rt_st (pc1 := 923) (fun _ _ B => go_if_eq_f d_L_law_919 rfl c319 (go_iconst (v := (0 : Int32)) d_L_law_922 (by decide) B)) ?_
          exact rt_eqW Value.int hyp (rt_bool d_L_law_923 rfl (by decide))
      replace hyp := (if_neg c298).symm.trans hyp
      by_cases c320 : (x4 &&& (63 : Int32)) = (25 : Int32)
      · replace hyp := (if_pos c320).symm.trans hyp
        obtain ⟨x321, e322, hyp⟩ := Option.bind_eq_some_iff.mp hyp
        obtain ⟨x323, e324, hyp⟩ := Option.bind_eq_some_iff.mp hyp
        refine rt_st (pc1 := 932) (fun _ _ B => go_tsw 924 d_L_law_33 (by decide) (by rw [c320]; decide) (go_aload_n 1 d_L_law_924 rfl (go_callV1 (q := q_10) (st := []) [] (t_C_reach F v1 h _ (onc_spec e322).2) mm_C_reach (by decide) d_L_law_925 (onc_spec e322).1 rfl rfl w846 w847 w848 rfl (Nat.le_of_ble_eq_true rfl) rfl (go_aload_n 2 d_L_law_928 rfl (go_callV1 (q := q_11) (st := [.int x321.1]) [] (t_M_reach F v2 x321.2 _ (onc_spec e324).2) mm_M_reach (by decide) d_L_law_929 (onc_spec e324).1 rfl rfl w1317 w1318 w1319 rfl (Nat.le_of_ble_eq_true rfl) rfl B))))) ?_
        by_cases c325 : x321.1 = x323.1
        · replace hyp := (if_pos c325).symm.trans hyp
          refine rt_st (pc1 := 1174) (fun _ _ B => go_icmp_eq_t 1174 d_L_law_932 rfl c325 B) ?_
          exact p_L_law_1174 F (b_L_law_18 F n) (fun a0 a1 a2 a3 a4 r hyp => ih a0 a1 a2 a3 a4 r hyp) _ _ _ _ _ r hyp
        · replace hyp := (if_neg c325).symm.trans hyp
          refine rt_st (pc1 := 936) (fun _ _ B => go_icmp_eq_f d_L_law_932 rfl c325 (go_iconst (v := (0 : Int32)) d_L_law_935 (by decide) B)) ?_
          exact rt_eqW Value.int hyp (rt_bool d_L_law_936 rfl (by decide))
      replace hyp := (if_neg c320).symm.trans hyp
      by_cases c326 : (x4 &&& (63 : Int32)) = (26 : Int32)
      · replace hyp := (if_pos c326).symm.trans hyp
        obtain ⟨x327, e328, hyp⟩ := Option.bind_eq_some_iff.mp hyp
        obtain ⟨x329, e330, hyp⟩ := Option.bind_eq_some_iff.mp hyp
        obtain ⟨x331, e332, hyp⟩ := Option.bind_eq_some_iff.mp hyp
        obtain ⟨x333, e334, hyp⟩ := Option.bind_eq_some_iff.mp hyp
        obtain ⟨x335, e336, hyp⟩ := Option.bind_eq_some_iff.mp hyp
        obtain ⟨x337, e338, hyp⟩ := Option.bind_eq_some_iff.mp hyp
        obtain ⟨x339, e340, hyp⟩ := Option.bind_eq_some_iff.mp hyp
        obtain ⟨x341, e342, hyp⟩ := Option.bind_eq_some_iff.mp hyp
        refine rt_st (pc1 := 975) (fun _ _ B => go_tsw 937 d_L_law_33 (by decide) (by rw [c326]; decide) (go_aload_n 1 d_L_law_937 rfl (go_aload_n 0 d_L_law_938 rfl (go_iload_n 3 d_L_law_939 rfl (go_iconst (v := (1 : Int32)) d_L_law_940 (by decide) (go_iadd d_L_law_941 (go_iald d_L_law_942 e328 (go_aload_n 0 d_L_law_943 rfl (go_iload_n 3 d_L_law_944 rfl (go_iconst (v := (2 : Int32)) d_L_law_945 (by decide) (go_iadd d_L_law_946 (go_iald d_L_law_947 e330 (go_aload_n 0 d_L_law_948 rfl (go_iload_n 3 d_L_law_949 rfl (go_iconst (v := (3 : Int32)) d_L_law_950 (by decide) (go_iadd d_L_law_951 (go_iald d_L_law_952 e332 (go_callV1 (q := q_10) (st := []) [.int x327, .int x329, .int x331] (t_C_days F v1 x327 x329 x331 h _ (onc_spec e334).2) mm_C_days (by decide) d_L_law_953 (onc_spec e334).1 rfl rfl w854 w855 w856 rfl (Nat.le_of_ble_eq_true rfl) rfl (go_aload_n 2 d_L_law_956 rfl (go_aload_n 0 d_L_law_957 rfl (go_iload_n 3 d_L_law_958 rfl (go_iconst (v := (1 : Int32)) d_L_law_959 (by decide) (go_iadd d_L_law_960 (go_iald d_L_law_961 e336 (go_aload_n 0 d_L_law_962 rfl (go_iload_n 3 d_L_law_963 rfl (go_iconst (v := (2 : Int32)) d_L_law_964 (by decide) (go_iadd d_L_law_965 (go_iald d_L_law_966 e338 (go_aload_n 0 d_L_law_967 rfl (go_iload_n 3 d_L_law_968 rfl (go_iconst (v := (3 : Int32)) d_L_law_969 (by decide) (go_iadd d_L_law_970 (go_iald d_L_law_971 e340 (go_callV1 (q := q_11) (st := [.int x333.1]) [.int x335, .int x337, .int x339] (t_M_days F v2 x335 x337 x339 x333.2 _ (onc_spec e342).2) mm_M_days (by decide) d_L_law_972 (onc_spec e342).1 rfl rfl w1321 w1322 w1323 rfl (Nat.le_of_ble_eq_true rfl) rfl B))))))))))))))))))))))))))))))))))) ?_
        by_cases c343 : x333.1 = x341.1
        · replace hyp := (if_pos c343).symm.trans hyp
          refine rt_st (pc1 := 1174) (fun _ _ B => go_icmp_eq_t 1174 d_L_law_975 rfl c343 B) ?_
          exact p_L_law_1174 F (b_L_law_18 F n) (fun a0 a1 a2 a3 a4 r hyp => ih a0 a1 a2 a3 a4 r hyp) _ _ _ _ _ r hyp
        · replace hyp := (if_neg c343).symm.trans hyp
          refine rt_st (pc1 := 979) (fun _ _ B => go_icmp_eq_f d_L_law_975 rfl c343 (go_iconst (v := (0 : Int32)) d_L_law_978 (by decide) B)) ?_
          exact rt_eqW Value.int hyp (rt_bool d_L_law_979 rfl (by decide))
      replace hyp := (if_neg c326).symm.trans hyp
      by_cases c344 : (x4 &&& (63 : Int32)) = (27 : Int32)
      · replace hyp := (if_pos c344).symm.trans hyp
        obtain ⟨x345, e346, hyp⟩ := Option.bind_eq_some_iff.mp hyp
        obtain ⟨x347, e348, hyp⟩ := Option.bind_eq_some_iff.mp hyp
        obtain ⟨x349, e350, hyp⟩ := Option.bind_eq_some_iff.mp hyp
        obtain ⟨x351, e352, hyp⟩ := Option.bind_eq_some_iff.mp hyp
        refine rt_st (pc1 := 998) (fun _ _ B => go_tsw 980 d_L_law_33 (by decide) (by rw [c344]; decide) (go_aload_n 1 d_L_law_980 rfl (go_aload_n 0 d_L_law_981 rfl (go_iload_n 3 d_L_law_982 rfl (go_iconst (v := (1 : Int32)) d_L_law_983 (by decide) (go_iadd d_L_law_984 (go_iald d_L_law_985 e346 (go_callV1 (q := q_10) (st := []) [.int x345] (t_C_image F v1 x345 h _ (onc_spec e348).2) mm_C_image (by decide) d_L_law_986 (onc_spec e348).1 rfl rfl w866 w867 w868 rfl (Nat.le_of_ble_eq_true rfl) rfl (go_aload_n 2 d_L_law_989 rfl (go_aload_n 0 d_L_law_990 rfl (go_iload_n 3 d_L_law_991 rfl (go_iconst (v := (1 : Int32)) d_L_law_992 (by decide) (go_iadd d_L_law_993 (go_iald d_L_law_994 e350 (go_callV1 (q := q_11) (st := [.int x347.1]) [.int x349] (t_M_image F v2 x349 x347.2 _ (onc_spec e352).2) mm_M_image (by decide) d_L_law_995 (onc_spec e352).1 rfl rfl w1329 w1330 w1331 rfl (Nat.le_of_ble_eq_true rfl) rfl B))))))))))))))) ?_
        by_cases c353 : x347.1 = x351.1
        · replace hyp := (if_pos c353).symm.trans hyp
          refine rt_st (pc1 := 1174) (fun _ _ B => go_icmp_eq_t 1174 d_L_law_998 rfl c353 B) ?_
          exact p_L_law_1174 F (b_L_law_18 F n) (fun a0 a1 a2 a3 a4 r hyp => ih a0 a1 a2 a3 a4 r hyp) _ _ _ _ _ r hyp
        · replace hyp := (if_neg c353).symm.trans hyp
          refine rt_st (pc1 := 1002) (fun _ _ B => go_icmp_eq_f d_L_law_998 rfl c353 (go_iconst (v := (0 : Int32)) d_L_law_1001 (by decide) B)) ?_
          exact rt_eqW Value.int hyp (rt_bool d_L_law_1002 rfl (by decide))
      replace hyp := (if_neg c344).symm.trans hyp
      by_cases c354 : (x4 &&& (63 : Int32)) = (28 : Int32)
      · replace hyp := (if_pos c354).symm.trans hyp
        obtain ⟨x355, e356, hyp⟩ := Option.bind_eq_some_iff.mp hyp
        obtain ⟨x357, e358, hyp⟩ := Option.bind_eq_some_iff.mp hyp
        obtain ⟨x359, e360, hyp⟩ := Option.bind_eq_some_iff.mp hyp
        obtain ⟨x361, e362, hyp⟩ := Option.bind_eq_some_iff.mp hyp
        refine rt_st (pc1 := 1021) (fun _ _ B => go_tsw 1003 d_L_law_33 (by decide) (by rw [c354]; decide) (go_aload_n 1 d_L_law_1003 rfl (go_aload_n 0 d_L_law_1004 rfl (go_iload_n 3 d_L_law_1005 rfl (go_iconst (v := (1 : Int32)) d_L_law_1006 (by decide) (go_iadd d_L_law_1007 (go_iald d_L_law_1008 e356 (go_callV1 (q := q_10) (st := []) [.int x355] (t_C_restore F v1 x355 h _ (onc_spec e358).2) mm_C_restore (by decide) d_L_law_1009 (onc_spec e358).1 rfl rfl w870 w871 w872 rfl (Nat.le_of_ble_eq_true rfl) rfl (go_aload_n 2 d_L_law_1012 rfl (go_aload_n 0 d_L_law_1013 rfl (go_iload_n 3 d_L_law_1014 rfl (go_iconst (v := (1 : Int32)) d_L_law_1015 (by decide) (go_iadd d_L_law_1016 (go_iald d_L_law_1017 e360 (go_callV1 (q := q_11) (st := [.int x357.1]) [.int x359] (t_M_restore F v2 x359 x357.2 _ (onc_spec e362).2) mm_M_restore (by decide) d_L_law_1018 (onc_spec e362).1 rfl rfl w1333 w1334 w1335 rfl (Nat.le_of_ble_eq_true rfl) rfl B))))))))))))))) ?_
        by_cases c363 : x357.1 = x361.1
        · replace hyp := (if_pos c363).symm.trans hyp
          refine rt_st (pc1 := 1174) (fun _ _ B => go_icmp_eq_t 1174 d_L_law_1021 rfl c363 B) ?_
          exact p_L_law_1174 F (b_L_law_18 F n) (fun a0 a1 a2 a3 a4 r hyp => ih a0 a1 a2 a3 a4 r hyp) _ _ _ _ _ r hyp
        · replace hyp := (if_neg c363).symm.trans hyp
          refine rt_st (pc1 := 1025) (fun _ _ B => go_icmp_eq_f d_L_law_1021 rfl c363 (go_iconst (v := (0 : Int32)) d_L_law_1024 (by decide) B)) ?_
          exact rt_eqW Value.int hyp (rt_bool d_L_law_1025 rfl (by decide))
      replace hyp := (if_neg c354).symm.trans hyp
      by_cases c364 : (x4 &&& (63 : Int32)) = (29 : Int32)
      · replace hyp := (if_pos c364).symm.trans hyp
        obtain ⟨x365, e366, hyp⟩ := Option.bind_eq_some_iff.mp hyp
        obtain ⟨x367, e368, hyp⟩ := Option.bind_eq_some_iff.mp hyp
        obtain ⟨x369, e370, hyp⟩ := Option.bind_eq_some_iff.mp hyp
        obtain ⟨x371, e372, hyp⟩ := Option.bind_eq_some_iff.mp hyp
        refine rt_st (pc1 := 1044) (fun _ _ B => go_tsw 1026 d_L_law_33 (by decide) (by rw [c364]; decide) (go_aload_n 1 d_L_law_1026 rfl (go_aload_n 0 d_L_law_1027 rfl (go_iload_n 3 d_L_law_1028 rfl (go_iconst (v := (1 : Int32)) d_L_law_1029 (by decide) (go_iadd d_L_law_1030 (go_iald d_L_law_1031 e366 (go_callV1 (q := q_10) (st := []) [.int x365] (t_C_kind v1 x365 h _ (onc_spec e368).2) mm_C_kind (by decide) d_L_law_1032 (onc_spec e368).1 rfl rfl w874 w875 w876 rfl (Nat.le_of_ble_eq_true rfl) rfl (go_aload_n 2 d_L_law_1035 rfl (go_aload_n 0 d_L_law_1036 rfl (go_iload_n 3 d_L_law_1037 rfl (go_iconst (v := (1 : Int32)) d_L_law_1038 (by decide) (go_iadd d_L_law_1039 (go_iald d_L_law_1040 e370 (go_callV1 (q := q_11) (st := [.int x367]) [.int x369] (t_M_kind v2 x369 h _ (onc_spec e372).2) mm_M_kind (by decide) d_L_law_1041 (onc_spec e372).1 rfl rfl w1337 w1338 w1339 rfl (Nat.le_of_ble_eq_true rfl) rfl B))))))))))))))) ?_
        by_cases c373 : x367 = x371.1
        · replace hyp := (if_pos c373).symm.trans hyp
          refine rt_st (pc1 := 1174) (fun _ _ B => go_icmp_eq_t 1174 d_L_law_1044 rfl c373 B) ?_
          exact p_L_law_1174 F (b_L_law_18 F n) (fun a0 a1 a2 a3 a4 r hyp => ih a0 a1 a2 a3 a4 r hyp) _ _ _ _ _ r hyp
        · replace hyp := (if_neg c373).symm.trans hyp
          refine rt_st (pc1 := 1048) (fun _ _ B => go_icmp_eq_f d_L_law_1044 rfl c373 (go_iconst (v := (0 : Int32)) d_L_law_1047 (by decide) B)) ?_
          exact rt_eqW Value.int hyp (rt_bool d_L_law_1048 rfl (by decide))
      replace hyp := (if_neg c364).symm.trans hyp
      by_cases c374 : (x4 &&& (63 : Int32)) = (30 : Int32)
      · replace hyp := (if_pos c374).symm.trans hyp
        obtain ⟨x375, e376, hyp⟩ := Option.bind_eq_some_iff.mp hyp
        obtain ⟨x377, e378, hyp⟩ := Option.bind_eq_some_iff.mp hyp
        obtain ⟨x379, e380, hyp⟩ := Option.bind_eq_some_iff.mp hyp
        obtain ⟨x381, e382, hyp⟩ := Option.bind_eq_some_iff.mp hyp
        obtain ⟨x383, e384, hyp⟩ := Option.bind_eq_some_iff.mp hyp
        obtain ⟨x385, e386, hyp⟩ := Option.bind_eq_some_iff.mp hyp
        refine rt_st (pc1 := 1077) (fun _ _ B => go_tsw 1049 d_L_law_33 (by decide) (by rw [c374]; decide) (go_aload_n 1 d_L_law_1049 rfl (go_aload_n 0 d_L_law_1050 rfl (go_iload_n 3 d_L_law_1051 rfl (go_iconst (v := (1 : Int32)) d_L_law_1052 (by decide) (go_iadd d_L_law_1053 (go_iald d_L_law_1054 e376 (go_aload_n 0 d_L_law_1055 rfl (go_iload_n 3 d_L_law_1056 rfl (go_iconst (v := (2 : Int32)) d_L_law_1057 (by decide) (go_iadd d_L_law_1058 (go_iald d_L_law_1059 e378 (go_callV1 (q := q_10) (st := []) [.int x375, .int x377] (t_C_as v1 x375 x377 h _ (onc_spec e380).2) mm_C_as (by decide) d_L_law_1060 (onc_spec e380).1 rfl rfl w896 w897 w898 rfl (Nat.le_of_ble_eq_true rfl) rfl (go_aload_n 2 d_L_law_1063 rfl (go_aload_n 0 d_L_law_1064 rfl (go_iload_n 3 d_L_law_1065 rfl (go_iconst (v := (1 : Int32)) d_L_law_1066 (by decide) (go_iadd d_L_law_1067 (go_iald d_L_law_1068 e382 (go_aload_n 0 d_L_law_1069 rfl (go_iload_n 3 d_L_law_1070 rfl (go_iconst (v := (2 : Int32)) d_L_law_1071 (by decide) (go_iadd d_L_law_1072 (go_iald d_L_law_1073 e384 (go_callV1 (q := q_11) (st := [.int x379.1]) [.int x381, .int x383] (t_M_as v2 x381 x383 x379.2 _ (onc_spec e386).2) mm_M_as (by decide) d_L_law_1074 (onc_spec e386).1 rfl rfl w1341 w1342 w1343 rfl (Nat.le_of_ble_eq_true rfl) rfl B))))))))))))))))))))))))) ?_
        by_cases c387 : x379.1 = x385.1
        · replace hyp := (if_pos c387).symm.trans hyp
          refine rt_st (pc1 := 1174) (fun _ _ B => go_icmp_eq_t 1174 d_L_law_1077 rfl c387 B) ?_
          exact p_L_law_1174 F (b_L_law_18 F n) (fun a0 a1 a2 a3 a4 r hyp => ih a0 a1 a2 a3 a4 r hyp) _ _ _ _ _ r hyp
        · replace hyp := (if_neg c387).symm.trans hyp
          refine rt_st (pc1 := 1081) (fun _ _ B => go_icmp_eq_f d_L_law_1077 rfl c387 (go_iconst (v := (0 : Int32)) d_L_law_1080 (by decide) B)) ?_
          exact rt_eqW Value.int hyp (rt_bool d_L_law_1081 rfl (by decide))
      replace hyp := (if_neg c374).symm.trans hyp
      by_cases c388 : (x4 &&& (63 : Int32)) = (31 : Int32)
      · replace hyp := (if_pos c388).symm.trans hyp
        obtain ⟨x389, e390, hyp⟩ := Option.bind_eq_some_iff.mp hyp
        obtain ⟨x391, e392, hyp⟩ := Option.bind_eq_some_iff.mp hyp
        obtain ⟨x393, e394, hyp⟩ := Option.bind_eq_some_iff.mp hyp
        obtain ⟨x395, e396, hyp⟩ := Option.bind_eq_some_iff.mp hyp
        obtain ⟨x397, e398, hyp⟩ := Option.bind_eq_some_iff.mp hyp
        obtain ⟨x399, e400, hyp⟩ := Option.bind_eq_some_iff.mp hyp
        refine rt_st (pc1 := 1110) (fun _ _ B => go_tsw 1082 d_L_law_33 (by decide) (by rw [c388]; decide) (go_aload_n 1 d_L_law_1082 rfl (go_aload_n 0 d_L_law_1083 rfl (go_iload_n 3 d_L_law_1084 rfl (go_iconst (v := (1 : Int32)) d_L_law_1085 (by decide) (go_iadd d_L_law_1086 (go_iald d_L_law_1087 e390 (go_aload_n 0 d_L_law_1088 rfl (go_iload_n 3 d_L_law_1089 rfl (go_iconst (v := (2 : Int32)) d_L_law_1090 (by decide) (go_iadd d_L_law_1091 (go_iald d_L_law_1092 e392 (go_callV1 (q := q_10) (st := []) [.int x389, .int x391] (t_C_ask v1 x389 x391 h _ (onc_spec e394).2) mm_C_ask (by decide) d_L_law_1093 (onc_spec e394).1 rfl rfl w908 w909 w910 rfl (Nat.le_of_ble_eq_true rfl) rfl (go_aload_n 2 d_L_law_1096 rfl (go_aload_n 0 d_L_law_1097 rfl (go_iload_n 3 d_L_law_1098 rfl (go_iconst (v := (1 : Int32)) d_L_law_1099 (by decide) (go_iadd d_L_law_1100 (go_iald d_L_law_1101 e396 (go_aload_n 0 d_L_law_1102 rfl (go_iload_n 3 d_L_law_1103 rfl (go_iconst (v := (2 : Int32)) d_L_law_1104 (by decide) (go_iadd d_L_law_1105 (go_iald d_L_law_1106 e398 (go_callV1 (q := q_11) (st := [.int x393.1]) [.int x395, .int x397] (t_M_ask v2 x395 x397 x393.2 _ (onc_spec e400).2) mm_M_ask (by decide) d_L_law_1107 (onc_spec e400).1 rfl rfl w1345 w1346 w1347 rfl (Nat.le_of_ble_eq_true rfl) rfl B))))))))))))))))))))))))) ?_
        by_cases c401 : x393.1 = x399.1
        · replace hyp := (if_pos c401).symm.trans hyp
          refine rt_st (pc1 := 1174) (fun _ _ B => go_icmp_eq_t 1174 d_L_law_1110 rfl c401 B) ?_
          exact p_L_law_1174 F (b_L_law_18 F n) (fun a0 a1 a2 a3 a4 r hyp => ih a0 a1 a2 a3 a4 r hyp) _ _ _ _ _ r hyp
        · replace hyp := (if_neg c401).symm.trans hyp
          refine rt_st (pc1 := 1114) (fun _ _ B => go_icmp_eq_f d_L_law_1110 rfl c401 (go_iconst (v := (0 : Int32)) d_L_law_1113 (by decide) B)) ?_
          exact rt_eqW Value.int hyp (rt_bool d_L_law_1114 rfl (by decide))
      replace hyp := (if_neg c388).symm.trans hyp
      by_cases c402 : (x4 &&& (63 : Int32)) = (32 : Int32)
      · replace hyp := (if_pos c402).symm.trans hyp
        obtain ⟨x403, e404, hyp⟩ := Option.bind_eq_some_iff.mp hyp
        obtain ⟨x405, e406, hyp⟩ := Option.bind_eq_some_iff.mp hyp
        obtain ⟨x407, e408, hyp⟩ := Option.bind_eq_some_iff.mp hyp
        obtain ⟨x409, e410, hyp⟩ := Option.bind_eq_some_iff.mp hyp
        refine rt_st (pc1 := 1133) (fun _ _ B => go_tsw 1115 d_L_law_33 (by decide) (by rw [c402]; decide) (go_aload_n 1 d_L_law_1115 rfl (go_aload_n 0 d_L_law_1116 rfl (go_iload_n 3 d_L_law_1117 rfl (go_iconst (v := (1 : Int32)) d_L_law_1118 (by decide) (go_iadd d_L_law_1119 (go_iald d_L_law_1120 e404 (go_callV1 (q := q_10) (st := []) [.int x403] (t_C_trace v1 x403 h _ (onc_spec e406).2) mm_C_trace (by decide) d_L_law_1121 (onc_spec e406).1 rfl rfl w967 w968 w969 rfl (Nat.le_of_ble_eq_true rfl) rfl (go_aload_n 2 d_L_law_1124 rfl (go_aload_n 0 d_L_law_1125 rfl (go_iload_n 3 d_L_law_1126 rfl (go_iconst (v := (1 : Int32)) d_L_law_1127 (by decide) (go_iadd d_L_law_1128 (go_iald d_L_law_1129 e408 (go_callV1 (q := q_11) (st := [.int x405]) [.int x407] (t_M_trace v2 x407 h _ (onc_spec e410).2) mm_M_trace (by decide) d_L_law_1130 (onc_spec e410).1 rfl rfl w1365 w1366 w1367 rfl (Nat.le_of_ble_eq_true rfl) rfl B))))))))))))))) ?_
        by_cases c411 : x405 = x409.1
        · replace hyp := (if_pos c411).symm.trans hyp
          refine rt_st (pc1 := 1174) (fun _ _ B => go_icmp_eq_t 1174 d_L_law_1133 rfl c411 B) ?_
          exact p_L_law_1174 F (b_L_law_18 F n) (fun a0 a1 a2 a3 a4 r hyp => ih a0 a1 a2 a3 a4 r hyp) _ _ _ _ _ r hyp
        · replace hyp := (if_neg c411).symm.trans hyp
          refine rt_st (pc1 := 1137) (fun _ _ B => go_icmp_eq_f d_L_law_1133 rfl c411 (go_iconst (v := (0 : Int32)) d_L_law_1136 (by decide) B)) ?_
          exact rt_eqW Value.int hyp (rt_bool d_L_law_1137 rfl (by decide))
      replace hyp := (if_neg c402).symm.trans hyp
      by_cases c412 : (x4 &&& (63 : Int32)) = (33 : Int32)
      · replace hyp := (if_pos c412).symm.trans hyp
        obtain ⟨x413, e414, hyp⟩ := Option.bind_eq_some_iff.mp hyp
        obtain ⟨x415, e416, hyp⟩ := Option.bind_eq_some_iff.mp hyp
        obtain ⟨x417, e418, hyp⟩ := Option.bind_eq_some_iff.mp hyp
        obtain ⟨x419, e420, hyp⟩ := Option.bind_eq_some_iff.mp hyp
        refine rt_st (pc1 := 1156) (fun _ _ B => go_tsw 1138 d_L_law_33 (by decide) (by rw [c412]; decide) (go_aload_n 1 d_L_law_1138 rfl (go_aload_n 0 d_L_law_1139 rfl (go_iload_n 3 d_L_law_1140 rfl (go_iconst (v := (1 : Int32)) d_L_law_1141 (by decide) (go_iadd d_L_law_1142 (go_iald d_L_law_1143 e414 (go_callV1 (q := q_10) (st := []) [.int x413] (t_C_count F v1 x413 h _ (onc_spec e416).2) mm_C_count (by decide) d_L_law_1144 (onc_spec e416).1 rfl rfl w971 w972 w973 rfl (Nat.le_of_ble_eq_true rfl) rfl (go_aload_n 2 d_L_law_1147 rfl (go_aload_n 0 d_L_law_1148 rfl (go_iload_n 3 d_L_law_1149 rfl (go_iconst (v := (1 : Int32)) d_L_law_1150 (by decide) (go_iadd d_L_law_1151 (go_iald d_L_law_1152 e418 (go_callV1 (q := q_11) (st := [.int x415]) [.int x417] (t_M_count F v2 x417 h _ (onc_spec e420).2) mm_M_count (by decide) d_L_law_1153 (onc_spec e420).1 rfl rfl w1369 w1370 w1371 rfl (Nat.le_of_ble_eq_true rfl) rfl B))))))))))))))) ?_
        by_cases c421 : x415 = x419.1
        · replace hyp := (if_pos c421).symm.trans hyp
          refine rt_st (pc1 := 1174) (fun _ _ B => go_icmp_eq_t 1174 d_L_law_1156 rfl c421 B) ?_
          exact p_L_law_1174 F (b_L_law_18 F n) (fun a0 a1 a2 a3 a4 r hyp => ih a0 a1 a2 a3 a4 r hyp) _ _ _ _ _ r hyp
        · replace hyp := (if_neg c421).symm.trans hyp
          refine rt_st (pc1 := 1160) (fun _ _ B => go_icmp_eq_f d_L_law_1156 rfl c421 (go_iconst (v := (0 : Int32)) d_L_law_1159 (by decide) B)) ?_
          exact rt_eqW Value.int hyp (rt_bool d_L_law_1160 rfl (by decide))
      replace hyp := (if_neg c412).symm.trans hyp
      by_cases c422 : (x4 &&& (63 : Int32)) = (34 : Int32)
      · replace hyp := (if_pos c422).symm.trans hyp
        obtain ⟨x423, e424, hyp⟩ := Option.bind_eq_some_iff.mp hyp
        obtain ⟨x425, e426, hyp⟩ := Option.bind_eq_some_iff.mp hyp
        refine rt_st (pc1 := 1169) (fun _ _ B => go_tsw 1161 d_L_law_33 (by decide) (by rw [c422]; decide) (go_aload_n 1 d_L_law_1161 rfl (go_callV1 (q := q_10) (st := []) [] (t_C_status v1 h _ (onc_spec e424).2) mm_C_status (by decide) d_L_law_1162 (onc_spec e424).1 rfl rfl w979 w980 w981 rfl (Nat.le_of_ble_eq_true rfl) rfl (go_aload_n 2 d_L_law_1165 rfl (go_callV1 (q := q_11) (st := [.int x423]) [] (t_M_status v2 h _ (onc_spec e426).2) mm_M_status (by decide) d_L_law_1166 (onc_spec e426).1 rfl rfl w1373 w1374 w1375 rfl (Nat.le_of_ble_eq_true rfl) rfl B))))) ?_
        by_cases c427 : x423 = x425.1
        · replace hyp := (if_pos c427).symm.trans hyp
          refine rt_st (pc1 := 1174) (fun _ _ B => go_icmp_eq_t 1174 d_L_law_1169 rfl c427 B) ?_
          exact p_L_law_1174 F (b_L_law_18 F n) (fun a0 a1 a2 a3 a4 r hyp => ih a0 a1 a2 a3 a4 r hyp) _ _ _ _ _ r hyp
        · replace hyp := (if_neg c427).symm.trans hyp
          refine rt_st (pc1 := 1173) (fun _ _ B => go_icmp_eq_f d_L_law_1169 rfl c427 (go_iconst (v := (0 : Int32)) d_L_law_1172 (by decide) B)) ?_
          exact rt_eqW Value.int hyp (rt_bool d_L_law_1173 rfl (by decide))
      replace hyp := (if_neg c422).symm.trans hyp
      refine rt_st (pc1 := 1174) (fun _ _ B => go_tsw 1174 d_L_law_33 (by decide) (mj_swd [0, 1, 2, 3, 4, 5, 6, 7, 8, 9, 10, 11, 12, 13, 14, 15, 16, 17, 18, 19, 20, 21, 22, 23, 24, 25, 26, 27, 28, 29, 30, 31, 32, 33, 34] (List.forall_mem_cons.mpr ⟨mj_swn c6 (by decide), List.forall_mem_cons.mpr ⟨mj_swn c24 (by decide), List.forall_mem_cons.mpr ⟨mj_swn c42 (by decide), List.forall_mem_cons.mpr ⟨mj_swn c68 (by decide), List.forall_mem_cons.mpr ⟨mj_swn c78 (by decide), List.forall_mem_cons.mpr ⟨mj_swn c88 (by decide), List.forall_mem_cons.mpr ⟨mj_swn c94 (by decide), List.forall_mem_cons.mpr ⟨mj_swn c100 (by decide), List.forall_mem_cons.mpr ⟨mj_swn c106 (by decide), List.forall_mem_cons.mpr ⟨mj_swn c120 (by decide), List.forall_mem_cons.mpr ⟨mj_swn c130 (by decide), List.forall_mem_cons.mpr ⟨mj_swn c144 (by decide), List.forall_mem_cons.mpr ⟨mj_swn c150 (by decide), List.forall_mem_cons.mpr ⟨mj_swn c160 (by decide), List.forall_mem_cons.mpr ⟨mj_swn c174 (by decide), List.forall_mem_cons.mpr ⟨mj_swn c188 (by decide), List.forall_mem_cons.mpr ⟨mj_swn c206 (by decide), List.forall_mem_cons.mpr ⟨mj_swn c216 (by decide), List.forall_mem_cons.mpr ⟨mj_swn c222 (by decide), List.forall_mem_cons.mpr ⟨mj_swn c232 (by decide), List.forall_mem_cons.mpr ⟨mj_swn c242 (by decide), List.forall_mem_cons.mpr ⟨mj_swn c248 (by decide), List.forall_mem_cons.mpr ⟨mj_swn c254 (by decide), List.forall_mem_cons.mpr ⟨mj_swn c276 (by decide), List.forall_mem_cons.mpr ⟨mj_swn c298 (by decide), List.forall_mem_cons.mpr ⟨mj_swn c320 (by decide), List.forall_mem_cons.mpr ⟨mj_swn c326 (by decide), List.forall_mem_cons.mpr ⟨mj_swn c344 (by decide), List.forall_mem_cons.mpr ⟨mj_swn c354 (by decide), List.forall_mem_cons.mpr ⟨mj_swn c364 (by decide), List.forall_mem_cons.mpr ⟨mj_swn c374 (by decide), List.forall_mem_cons.mpr ⟨mj_swn c388 (by decide), List.forall_mem_cons.mpr ⟨mj_swn c402 (by decide), List.forall_mem_cons.mpr ⟨mj_swn c412 (by decide), List.forall_mem_cons.mpr ⟨mj_swn c422 (by decide), List.forall_mem_nil _⟩⟩⟩⟩⟩⟩⟩⟩⟩⟩⟩⟩⟩⟩⟩⟩⟩⟩⟩⟩⟩⟩⟩⟩⟩⟩⟩⟩⟩⟩⟩⟩⟩⟩⟩) (by decide) rfl) B) ?_
      exact p_L_law_1174 F (b_L_law_18 F n) (fun a0 a1 a2 a3 a4 r hyp => ih a0 a1 a2 a3 a4 r hyp) _ _ _ _ _ r hyp
set_option maxHeartbeats 4000000 in
set_option maxRecDepth 200000 in
theorem t_L_law (F : Nat) (v0 : Option Nat) (h : MH) (r : (Int32 × MH)) (hyp : f_L_law F v0 h = some r) : Rt mi_L_law 26 h 0 [(0, va_rf v0)] [] h (some (.int r.1)) r.2 := by
  unfold f_L_law at hyp
  obtain ⟨h1, e2, hyp⟩ := Option.bind_eq_some_iff.mp hyp
  obtain ⟨h3, e4, hyp⟩ := Option.bind_eq_some_iff.mp hyp
  obtain ⟨h5, e6, hyp⟩ := Option.bind_eq_some_iff.mp hyp
  obtain ⟨h7, e8, hyp⟩ := Option.bind_eq_some_iff.mp hyp
  refine rt_st (pc1 := 18) (fun _ _ B => go_newO (ci := 10) (q := q_10) d_L_law_0 rfl o_10_ok (fun _ => rfl) w70 w71 w53 e2 (go_dup d_L_law_3 (mj_rfc _) (go_callI (st := [va_rf (some h.2.1)]) [] (t_C_init F (some h.2.1) h1 _ e4) mm_C_init rfl (by decide) d_L_law_4 w72 w73 rfl rfl (Nat.le_of_ble_eq_true rfl) rfl (go_astore_n (lv1 := [(1, va_rf (some h.2.1)), (0, va_rf v0)]) d_L_law_7 (by decide) (by first | (simp [mj_s1, mj_s2, mj_rfc, mj_cti, mj_ctl]; done) | (simp [mj_s1, mj_s2, mj_rfc, mj_cti, mj_ctl]; decide)) (go_newO (ci := 11) (q := q_11) d_L_law_8 rfl o_11_ok (fun _ => rfl) w983 w984 w60 e6 (go_dup d_L_law_11 (mj_rfc _) (go_callI (st := [va_rf (some h3.2.1)]) [] (t_M_init (some h3.2.1) h5 _ e8) mm_M_init rfl (by decide) d_L_law_12 w985 w986 rfl rfl (Nat.le_of_ble_eq_true rfl) rfl (go_astore_n (lv1 := [(2, va_rf (some h3.2.1)), (1, va_rf (some h.2.1)), (0, va_rf v0)]) d_L_law_15 (by decide) (by first | (simp [mj_s1, mj_s2, mj_rfc, mj_cti, mj_ctl]; done) | (simp [mj_s1, mj_s2, mj_rfc, mj_cti, mj_ctl]; decide)) (go_iconst (v := (0 : Int32)) d_L_law_16 (by decide) (go_istore_n (lv1 := [(3, .int (0 : Int32)), (2, va_rf (some h3.2.1)), (1, va_rf (some h.2.1)), (0, va_rf v0)]) d_L_law_17 (by decide) (by first | (simp [mj_s1, mj_s2, mj_rfc, mj_cti, mj_ctl]; done) | (simp [mj_s1, mj_s2, mj_rfc, mj_cti, mj_ctl]; decide)) B)))))))))) ?_
  refine rt_sub [3, 2, 1, 0] (lv1 := [(0, va_rf v0), (1, va_rf (some h.2.1)), (2, va_rf (some h3.2.1)), (3, .int (0 : Int32))]) rfl ?_
  exact p_L_law_18 F F _ _ _ _ _ r hyp
