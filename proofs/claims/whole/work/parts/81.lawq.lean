/-! THE LAW: its loop, purely; by program -/
set_option maxHeartbeats 40000000 in
set_option maxRecDepth 100000 in
theorem qL_law_3 (L : Nat) (xs : Nat → Int32) (G : Nat → List am_V → am_H → am_Z) (n : Nat) (x3 : Int32) (h : am_H) : am_run L xs cL_law G (n + 1) 3 [some (vr 8 0), some (vr 6 0), some (vr 7 82), some (vi x3)] h =
  if ((nI L) - 5) < x3 then
    (some (h, some 1))
  else am_b L x3 fun j1 =>
  if ((xs j1) &&& 31) = nI 0 then
    (am_b L (x3 + 1) fun j2 =>
    am_r1 (G 49 [vr 6 0, vi (xs j2)] h) fun h3 v4 =>
    am_b L (x3 + 1) fun j5 =>
    am_r1 (G 100 [vr 7 82, vi (xs j5)] h3) fun h6 v7 =>
    if v4 = v7 then
      (am_run L xs cL_law G n 3 [some (vr 8 0), some (vr 6 0), some (vr 7 82), some (vi (x3 + 5))] h6)
    else some (h6, some 0))
  else if ((xs j1) &&& 31) = nI 1 then
    (am_r1 (G 50 [vr 6 0] h) fun h8 v9 =>
    am_r1 (G 101 [vr 7 82] h8) fun h10 v11 =>
    if v9 = v11 then
      (am_run L xs cL_law G n 3 [some (vr 8 0), some (vr 6 0), some (vr 7 82), some (vi (x3 + 5))] h10)
    else some (h10, some 0))
  else if ((xs j1) &&& 31) = nI 2 then
    (am_r1 (G 51 [vr 6 0] h) fun h12 v13 =>
    am_r1 (G 106 [vr 7 82] h12) fun h14 v15 =>
    if v13 = v15 then
      (am_run L xs cL_law G n 3 [some (vr 8 0), some (vr 6 0), some (vr 7 82), some (vi (x3 + 5))] h14)
    else some (h14, some 0))
  else if ((xs j1) &&& 31) = nI 3 then
    (am_r1 (G 52 [vr 6 0] h) fun h16 v17 =>
    am_r1 (G 107 [vr 7 82] h16) fun h18 v19 =>
    if v17 = v19 then
      (am_run L xs cL_law G n 3 [some (vr 8 0), some (vr 6 0), some (vr 7 82), some (vi (x3 + 5))] h18)
    else some (h18, some 0))
  else if ((xs j1) &&& 31) = nI 4 then
    (am_b L (x3 + 1) fun j20 =>
    am_b L (x3 + 2) fun j21 =>
    am_r1 (G 53 [vr 6 0, vi (xs j20), vi (xs j21)] h) fun h22 v23 =>
    am_b L (x3 + 1) fun j24 =>
    am_b L (x3 + 2) fun j25 =>
    am_r1 (G 125 [vr 7 82, vi (xs j24), vi (xs j25)] h22) fun h26 v27 =>
    if v23 = v27 then
      (am_run L xs cL_law G n 3 [some (vr 8 0), some (vr 6 0), some (vr 7 82), some (vi (x3 + 5))] h26)
    else some (h26, some 0))
  else if ((xs j1) &&& 31) = nI 5 then
    (am_b L (x3 + 1) fun j28 =>
    am_b L (x3 + 2) fun j29 =>
    am_b L (x3 + 3) fun j30 =>
    am_r1 (G 54 [vr 6 0, vi (xs j28), vi (xs j29), vi (xs j30)] h) fun h31 v32 =>
    am_b L (x3 + 1) fun j33 =>
    am_b L (x3 + 2) fun j34 =>
    am_b L (x3 + 3) fun j35 =>
    am_r1 (G 127 [vr 7 82, vi (xs j33), vi (xs j34), vi (xs j35)] h31) fun h36 v37 =>
    if v32 = v37 then
      (am_run L xs cL_law G n 3 [some (vr 8 0), some (vr 6 0), some (vr 7 82), some (vi (x3 + 5))] h36)
    else some (h36, some 0))
  else if ((xs j1) &&& 31) = nI 6 then
    (am_b L (x3 + 1) fun j38 =>
    am_b L (x3 + 2) fun j39 =>
    am_r1 (G 55 [vr 6 0, vi (xs j38), vi (xs j39)] h) fun h40 v41 =>
    am_b L (x3 + 1) fun j42 =>
    am_b L (x3 + 2) fun j43 =>
    am_r1 (G 128 [vr 7 82, vi (xs j42), vi (xs j43)] h40) fun h44 v45 =>
    if v41 = v45 then
      (am_run L xs cL_law G n 3 [some (vr 8 0), some (vr 6 0), some (vr 7 82), some (vi (x3 + 5))] h44)
    else some (h44, some 0))
  else if ((xs j1) &&& 31) = nI 7 then
    (am_b L (x3 + 1) fun j46 =>
    am_b L (x3 + 2) fun j47 =>
    am_r1 (G 56 [vr 6 0, vi (xs j46), vi (xs j47)] h) fun h48 v49 =>
    am_b L (x3 + 1) fun j50 =>
    am_b L (x3 + 2) fun j51 =>
    am_r1 (G 130 [vr 7 82, vi (xs j50), vi (xs j51)] h48) fun h52 v53 =>
    if v49 = v53 then
      (am_run L xs cL_law G n 3 [some (vr 8 0), some (vr 6 0), some (vr 7 82), some (vi (x3 + 5))] h52)
    else some (h52, some 0))
  else if ((xs j1) &&& 31) = nI 8 then
    (am_b L (x3 + 1) fun j54 =>
    am_b L (x3 + 2) fun j55 =>
    am_r1 (G 57 [vr 6 0, vi (xs j54), vi (xs j55)] h) fun h56 v57 =>
    am_b L (x3 + 1) fun j58 =>
    am_b L (x3 + 2) fun j59 =>
    am_r1 (G 131 [vr 7 82, vi (xs j58), vi (xs j59)] h56) fun h60 v61 =>
    if v57 = v61 then
      (am_run L xs cL_law G n 3 [some (vr 8 0), some (vr 6 0), some (vr 7 82), some (vi (x3 + 5))] h60)
    else some (h60, some 0))
  else if ((xs j1) &&& 31) = nI 9 then
    (am_b L (x3 + 1) fun j62 =>
    am_b L (x3 + 2) fun j63 =>
    am_r1 (G 58 [vr 6 0, vi (xs j62), vi (xs j63)] h) fun h64 v65 =>
    am_b L (x3 + 1) fun j66 =>
    am_b L (x3 + 2) fun j67 =>
    am_r1 (G 133 [vr 7 82, vi (xs j66), vi (xs j67)] h64) fun h68 v69 =>
    if v65 = v69 then
      (am_run L xs cL_law G n 3 [some (vr 8 0), some (vr 6 0), some (vr 7 82), some (vi (x3 + 5))] h68)
    else some (h68, some 0))
  else if ((xs j1) &&& 31) = nI 10 then
    (am_b L (x3 + 1) fun j70 =>
    am_b L (x3 + 2) fun j71 =>
    am_r1 (G 59 [vr 6 0, vi (xs j70), vi (xs j71)] h) fun h72 v73 =>
    am_b L (x3 + 1) fun j74 =>
    am_b L (x3 + 2) fun j75 =>
    am_r1 (G 136 [vr 7 82, vi (xs j74), vi (xs j75)] h72) fun h76 v77 =>
    if v73 = v77 then
      (am_run L xs cL_law G n 3 [some (vr 8 0), some (vr 6 0), some (vr 7 82), some (vi (x3 + 5))] h76)
    else some (h76, some 0))
  else if ((xs j1) &&& 31) = nI 11 then
    (am_b L (x3 + 1) fun j78 =>
    am_b L (x3 + 2) fun j79 =>
    am_r1 (G 60 [vr 6 0, vi (xs j78), vi (xs j79)] h) fun h80 v81 =>
    am_b L (x3 + 1) fun j82 =>
    am_b L (x3 + 2) fun j83 =>
    am_r1 (G 137 [vr 7 82, vi (xs j82), vi (xs j83)] h80) fun h84 v85 =>
    if v81 = v85 then
      (am_run L xs cL_law G n 3 [some (vr 8 0), some (vr 6 0), some (vr 7 82), some (vi (x3 + 5))] h84)
    else some (h84, some 0))
  else if ((xs j1) &&& 31) = nI 12 then
    (am_b L (x3 + 1) fun j86 =>
    am_b L (x3 + 2) fun j87 =>
    am_r1 (G 61 [vr 6 0, vi (xs j86), vi (xs j87)] h) fun h88 v89 =>
    am_b L (x3 + 1) fun j90 =>
    am_b L (x3 + 2) fun j91 =>
    am_r1 (G 138 [vr 7 82, vi (xs j90), vi (xs j91)] h88) fun h92 v93 =>
    if v89 = v93 then
      (am_run L xs cL_law G n 3 [some (vr 8 0), some (vr 6 0), some (vr 7 82), some (vi (x3 + 5))] h92)
    else some (h92, some 0))
  else if ((xs j1) &&& 31) = nI 13 then
    (am_b L (x3 + 1) fun j94 =>
    am_b L (x3 + 2) fun j95 =>
    am_r1 (G 62 [vr 6 0, vi (xs j94), vi (xs j95)] h) fun h96 v97 =>
    am_b L (x3 + 1) fun j98 =>
    am_b L (x3 + 2) fun j99 =>
    am_r1 (G 139 [vr 7 82, vi (xs j98), vi (xs j99)] h96) fun h100 v101 =>
    if v97 = v101 then
      (am_run L xs cL_law G n 3 [some (vr 8 0), some (vr 6 0), some (vr 7 82), some (vi (x3 + 5))] h100)
    else some (h100, some 0))
  else if ((xs j1) &&& 31) = nI 14 then
    (am_r1 (G 63 [vr 6 0] h) fun h102 v103 =>
    am_r1 (G 140 [vr 7 82] h102) fun h104 v105 =>
    if v103 = v105 then
      (am_run L xs cL_law G n 3 [some (vr 8 0), some (vr 6 0), some (vr 7 82), some (vi (x3 + 5))] h104)
    else some (h104, some 0))
  else if ((xs j1) &&& 31) = nI 15 then
    (am_b L (x3 + 1) fun j106 =>
    am_b L (x3 + 2) fun j107 =>
    am_b L (x3 + 3) fun j108 =>
    am_r1 (G 64 [vr 6 0, vi (xs j106), vi (xs j107), vi (xs j108)] h) fun h109 v110 =>
    am_b L (x3 + 1) fun j111 =>
    am_b L (x3 + 2) fun j112 =>
    am_b L (x3 + 3) fun j113 =>
    am_r1 (G 141 [vr 7 82, vi (xs j111), vi (xs j112), vi (xs j113)] h109) fun h114 v115 =>
    if v110 = v115 then
      (am_run L xs cL_law G n 3 [some (vr 8 0), some (vr 6 0), some (vr 7 82), some (vi (x3 + 5))] h114)
    else some (h114, some 0))
  else if ((xs j1) &&& 31) = nI 16 then
    (am_b L (x3 + 1) fun j116 =>
    am_b L (x3 + 2) fun j117 =>
    am_b L (x3 + 3) fun j118 =>
    am_b L (x3 + 4) fun j119 =>
    am_r1 (G 65 [vr 6 0, vi (xs j116), vi (xs j117), vi (xs j118), vi (xs j119)] h) fun h120 v121 =>
    am_b L (x3 + 1) fun j122 =>
    am_b L (x3 + 2) fun j123 =>
    am_b L (x3 + 3) fun j124 =>
    am_b L (x3 + 4) fun j125 =>
    am_r1 (G 144 [vr 7 82, vi (xs j122), vi (xs j123), vi (xs j124), vi (xs j125)] h120) fun h126 v127 =>
    if v121 = v127 then
      (am_run L xs cL_law G n 3 [some (vr 8 0), some (vr 6 0), some (vr 7 82), some (vi (x3 + 5))] h126)
    else some (h126, some 0))
  else if ((xs j1) &&& 31) = nI 17 then
    (am_b L (x3 + 1) fun j128 =>
    am_r1 (G 66 [vr 6 0, vi (xs j128)] h) fun h129 v130 =>
    am_b L (x3 + 1) fun j131 =>
    am_r1 (G 145 [vr 7 82, vi (xs j131)] h129) fun h132 v133 =>
    if v130 = v133 then
      (am_run L xs cL_law G n 3 [some (vr 8 0), some (vr 6 0), some (vr 7 82), some (vi (x3 + 5))] h132)
    else some (h132, some 0))
  else if ((xs j1) &&& 31) = nI 18 then
    (am_r1 (G 67 [vr 6 0] h) fun h134 v135 =>
    am_r1 (G 146 [vr 7 82] h134) fun h136 v137 =>
    if v135 = v137 then
      (am_run L xs cL_law G n 3 [some (vr 8 0), some (vr 6 0), some (vr 7 82), some (vi (x3 + 5))] h136)
    else some (h136, some 0))
  else if ((xs j1) &&& 31) = nI 19 then
    (am_b L (x3 + 1) fun j138 =>
    am_b L (x3 + 2) fun j139 =>
    am_b L (x3 + 3) fun j140 =>
    am_r1 (G 68 [vr 6 0, vi (xs j138), vi (xs j139), vi (xs j140)] h) fun h141 v142 =>
    am_b L (x3 + 1) fun j143 =>
    am_b L (x3 + 2) fun j144 =>
    am_b L (x3 + 3) fun j145 =>
    am_r1 (G 148 [vr 7 82, vi (xs j143), vi (xs j144), vi (xs j145)] h141) fun h146 v147 =>
    if v142 = v147 then
      (am_run L xs cL_law G n 3 [some (vr 8 0), some (vr 6 0), some (vr 7 82), some (vi (x3 + 5))] h146)
    else some (h146, some 0))
  else if ((xs j1) &&& 31) = nI 20 then
    (am_b L (x3 + 1) fun j148 =>
    am_b L (x3 + 2) fun j149 =>
    am_b L (x3 + 3) fun j150 =>
    am_r1 (G 69 [vr 6 0, vi (xs j148), vi (xs j149), vi (xs j150)] h) fun h151 v152 =>
    am_b L (x3 + 1) fun j153 =>
    am_b L (x3 + 2) fun j154 =>
    am_b L (x3 + 3) fun j155 =>
    am_r1 (G 149 [vr 7 82, vi (xs j153), vi (xs j154), vi (xs j155)] h151) fun h156 v157 =>
    if v152 = v157 then
      (am_run L xs cL_law G n 3 [some (vr 8 0), some (vr 6 0), some (vr 7 82), some (vi (x3 + 5))] h156)
    else some (h156, some 0))
  else if ((xs j1) &&& 31) = nI 21 then
    (am_b L (x3 + 1) fun j158 =>
    am_b L (x3 + 2) fun j159 =>
    am_b L (x3 + 3) fun j160 =>
    am_r1 (G 70 [vr 6 0, vi (xs j158), vi (xs j159), vi (xs j160)] h) fun h161 v162 =>
    am_b L (x3 + 1) fun j163 =>
    am_b L (x3 + 2) fun j164 =>
    am_b L (x3 + 3) fun j165 =>
    am_r1 (G 150 [vr 7 82, vi (xs j163), vi (xs j164), vi (xs j165)] h161) fun h166 v167 =>
    if v162 = v167 then
      (am_run L xs cL_law G n 3 [some (vr 8 0), some (vr 6 0), some (vr 7 82), some (vi (x3 + 5))] h166)
    else some (h166, some 0))
  else if ((xs j1) &&& 31) = nI 22 then
    (am_b L (x3 + 1) fun j168 =>
    am_b L (x3 + 2) fun j169 =>
    am_r1 (G 71 [vr 6 0, vi (xs j168), vi (xs j169)] h) fun h170 v171 =>
    am_b L (x3 + 1) fun j172 =>
    am_b L (x3 + 2) fun j173 =>
    am_r1 (G 151 [vr 7 82, vi (xs j172), vi (xs j173)] h170) fun h174 v175 =>
    if v171 = v175 then
      (am_run L xs cL_law G n 3 [some (vr 8 0), some (vr 6 0), some (vr 7 82), some (vi (x3 + 5))] h174)
    else some (h174, some 0))
  else if ((xs j1) &&& 31) = nI 23 then
    (am_b L (x3 + 1) fun j176 =>
    am_b L (x3 + 2) fun j177 =>
    am_b L (x3 + 3) fun j178 =>
    am_r1 (G 72 [vr 6 0, vi (xs j176), vi (xs j177), vi (xs j178)] h) fun h179 v180 =>
    am_b L (x3 + 1) fun j181 =>
    am_b L (x3 + 2) fun j182 =>
    am_b L (x3 + 3) fun j183 =>
    am_r1 (G 152 [vr 7 82, vi (xs j181), vi (xs j182), vi (xs j183)] h179) fun h184 v185 =>
    if v180 = v185 then
      (am_run L xs cL_law G n 3 [some (vr 8 0), some (vr 6 0), some (vr 7 82), some (vi (x3 + 5))] h184)
    else some (h184, some 0))
  else if ((xs j1) &&& 31) = nI 24 then
    (am_r1 (G 73 [vr 6 0] h) fun h186 v187 =>
    am_r1 (G 153 [vr 7 82] h186) fun h188 v189 =>
    if v187 = v189 then
      (am_run L xs cL_law G n 3 [some (vr 8 0), some (vr 6 0), some (vr 7 82), some (vi (x3 + 5))] h188)
    else some (h188, some 0))
  else if ((xs j1) &&& 31) = nI 25 then
    (am_b L (x3 + 1) fun j190 =>
    am_r1 (G 74 [vr 6 0, vi (xs j190)] h) fun h191 v192 =>
    am_b L (x3 + 1) fun j193 =>
    am_r1 (G 156 [vr 7 82, vi (xs j193)] h191) fun h194 v195 =>
    if v192 = v195 then
      (am_run L xs cL_law G n 3 [some (vr 8 0), some (vr 6 0), some (vr 7 82), some (vi (x3 + 5))] h194)
    else some (h194, some 0))
  else if ((xs j1) &&& 31) = nI 26 then
    (am_b L (x3 + 1) fun j196 =>
    am_b L (x3 + 2) fun j197 =>
    am_r1 (G 75 [vr 6 0, vi (xs j196), vi (xs j197)] h) fun h198 v199 =>
    am_b L (x3 + 1) fun j200 =>
    am_b L (x3 + 2) fun j201 =>
    am_r1 (G 157 [vr 7 82, vi (xs j200), vi (xs j201)] h198) fun h202 v203 =>
    if v199 = v203 then
      (am_run L xs cL_law G n 3 [some (vr 8 0), some (vr 6 0), some (vr 7 82), some (vi (x3 + 5))] h202)
    else some (h202, some 0))
  else if ((xs j1) &&& 31) = nI 27 then
    (am_b L (x3 + 1) fun j204 =>
    am_r1 (G 76 [vr 6 0, vi (xs j204)] h) fun h205 v206 =>
    am_b L (x3 + 1) fun j207 =>
    am_r1 (G 158 [vr 7 82, vi (xs j207)] h205) fun h208 v209 =>
    if v206 = v209 then
      (am_run L xs cL_law G n 3 [some (vr 8 0), some (vr 6 0), some (vr 7 82), some (vi (x3 + 5))] h208)
    else some (h208, some 0))
  else if ((xs j1) &&& 31) = nI 28 then
    (am_b L (x3 + 1) fun j210 =>
    am_b L (x3 + 2) fun j211 =>
    am_b L (x3 + 3) fun j212 =>
    am_r1 (G 77 [vr 6 0, vi (xs j210), vi (xs j211), vi (xs j212)] h) fun h213 v214 =>
    am_b L (x3 + 1) fun j215 =>
    am_b L (x3 + 2) fun j216 =>
    am_b L (x3 + 3) fun j217 =>
    am_r1 (G 159 [vr 7 82, vi (xs j215), vi (xs j216), vi (xs j217)] h213) fun h218 v219 =>
    if v214 = v219 then
      (am_run L xs cL_law G n 3 [some (vr 8 0), some (vr 6 0), some (vr 7 82), some (vi (x3 + 5))] h218)
    else some (h218, some 0))
  else if ((xs j1) &&& 31) = nI 29 then
    (am_r1 (G 78 [vr 6 0] h) fun h220 v221 =>
    am_r1 (G 161 [vr 7 82] h220) fun h222 v223 =>
    if v221 = v223 then
      (am_run L xs cL_law G n 3 [some (vr 8 0), some (vr 6 0), some (vr 7 82), some (vi (x3 + 5))] h222)
    else some (h222, some 0))
  else if ((xs j1) &&& 31) = nI 30 then
    (am_r1 (G 79 [vr 6 0] h) fun h224 v225 =>
    am_r1 (G 162 [vr 7 82] h224) fun h226 v227 =>
    if v225 = v227 then
      (am_run L xs cL_law G n 3 [some (vr 8 0), some (vr 6 0), some (vr 7 82), some (vi (x3 + 5))] h226)
    else some (h226, some 0))
  else if ((xs j1) &&& 31) = nI 31 then
    (am_b L (x3 + 1) fun j228 =>
    am_r1 (G 80 [vr 6 0, vi (xs j228)] h) fun h229 v230 =>
    am_b L (x3 + 1) fun j231 =>
    am_r1 (G 163 [vr 7 82, vi (xs j231)] h229) fun h232 v233 =>
    if v230 = v233 then
      (am_run L xs cL_law G n 3 [some (vr 8 0), some (vr 6 0), some (vr 7 82), some (vi (x3 + 5))] h232)
    else some (h232, some 0))
  else am_run L xs cL_law G n 3 [some (vr 8 0), some (vr 6 0), some (vr 7 82), some (vi (x3 + 5))] h := rfl
set_option maxRecDepth 100000 in
theorem qL_law_0 (L : Nat) (xs : Nat → Int32) (G : Nat → List am_V → am_H → am_Z) (n : Nat) (u : Option am_V) (h : am_H) : am_run L xs cL_law G (n + 1) 0 [some (vr 8 0), some (vr 6 0), some (vr 7 82), u] h = am_run L xs cL_law G n 3 [some (vr 8 0), some (vr 6 0), some (vr 7 82), some (vi 0)] h := rfl
