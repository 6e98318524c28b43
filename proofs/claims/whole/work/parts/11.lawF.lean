def f_La_law_b1171 (nS : Nat) (xS : Nat → Int32) (k18 : Hp → Nat → Nat → Int32 → Option (Int32 × Hp)) (G : Hp) (l1 : Nat) (l2 : Nat) (l3 : Int32) : Option (Int32 × Hp) :=
  k18 G l1 l2 (l3 + 7)
def f_La_law_b18_k (nS : Nat) (xS : Nat → Int32) (k18 : Hp → Nat → Nat → Int32 → Option (Int32 × Hp)) (G : Hp) (l1 : Nat) (l2 : Nat) (l3 : Int32) : Option (Int32 × Hp) :=
  xL nS fun x1 =>
  if (x1 - (7 : Int32)) < l3 then
    some ((1 : Int32), G)
  else
    xI nS xS l3 fun x2 =>
    if (x2 &&& (63 : Int32)) = 0 then
      xI nS xS (l3 + (1 : Int32)) fun x3 =>
      vH G 9 l1 (f_Fa_people G l1 x3) fun x4 G5 =>
      xI nS xS (l3 + (1 : Int32)) fun x6 =>
      vH G5 10 l2 (f_Mo_people G5 l2 x6) fun x7 G8 =>
      if x4 = x7 then
        f_La_law_b1171 nS xS k18 G8 l1 l2 l3
      else
        some ((0 : Int32), G8)
    else
      if (x2 &&& (63 : Int32)) = 1 then
        xI nS xS (l3 + (1 : Int32)) fun x9 =>
        xI nS xS (l3 + (2 : Int32)) fun x10 =>
        vH G 9 l1 (f_Fa_strong G l1 x9 x10) fun x11 G12 =>
        xI nS xS (l3 + (1 : Int32)) fun x13 =>
        xI nS xS (l3 + (2 : Int32)) fun x14 =>
        vH G12 10 l2 (f_Mo_strong G12 l2 x13 x14) fun x15 G16 =>
        if x11 = x15 then
          f_La_law_b1171 nS xS k18 G16 l1 l2 l3
        else
          some ((0 : Int32), G16)
      else
        if (x2 &&& (63 : Int32)) = 2 then
          xI nS xS (l3 + (1 : Int32)) fun x17 =>
          xI nS xS (l3 + (2 : Int32)) fun x18 =>
          xI nS xS (l3 + (3 : Int32)) fun x19 =>
          xI nS xS (l3 + (4 : Int32)) fun x20 =>
          xI nS xS (l3 + (5 : Int32)) fun x21 =>
          xI nS xS (l3 + (6 : Int32)) fun x22 =>
          vH G 9 l1 (f_Fa_favour G l1 x17 x18 x19 x20 x21 x22) fun x23 G24 =>
          xI nS xS (l3 + (1 : Int32)) fun x25 =>
          xI nS xS (l3 + (2 : Int32)) fun x26 =>
          xI nS xS (l3 + (3 : Int32)) fun x27 =>
          xI nS xS (l3 + (4 : Int32)) fun x28 =>
          xI nS xS (l3 + (5 : Int32)) fun x29 =>
          xI nS xS (l3 + (6 : Int32)) fun x30 =>
          vH G24 10 l2 (f_Mo_favour G24 l2 x25 x26 x27 x28 x29 x30) fun x31 G32 =>
          if x23 = x31 then
            f_La_law_b1171 nS xS k18 G32 l1 l2 l3
          else
            some ((0 : Int32), G32)
        else
          if (x2 &&& (63 : Int32)) = 3 then
            xI nS xS (l3 + (1 : Int32)) fun x33 =>
            xI nS xS (l3 + (2 : Int32)) fun x34 =>
            xI nS xS (l3 + (3 : Int32)) fun x35 =>
            xI nS xS (l3 + (4 : Int32)) fun x36 =>
            vH G 9 l1 (f_Fa_need G l1 x33 x34 x35 x36) fun x37 G38 =>
            xI nS xS (l3 + (1 : Int32)) fun x39 =>
            xI nS xS (l3 + (2 : Int32)) fun x40 =>
            xI nS xS (l3 + (3 : Int32)) fun x41 =>
            xI nS xS (l3 + (4 : Int32)) fun x42 =>
            vH G38 10 l2 (f_Mo_need G38 l2 x39 x40 x41 x42) fun x43 G44 =>
            if x37 = x43 then
              f_La_law_b1171 nS xS k18 G44 l1 l2 l3
            else
              some ((0 : Int32), G44)
          else
            if (x2 &&& (63 : Int32)) = 4 then
              vH G 9 l1 (f_Fa_contented G l1) fun x45 G46 =>
              vH G46 10 l2 (f_Mo_contented G46 l2) fun x47 G48 =>
              if x45 = x47 then
                f_La_law_b1171 nS xS k18 G48 l1 l2 l3
              else
                some ((0 : Int32), G48)
            else
              if (x2 &&& (63 : Int32)) = 5 then
                xI nS xS (l3 + (1 : Int32)) fun x49 =>
                xI nS xS (l3 + (2 : Int32)) fun x50 =>
                xI nS xS (l3 + (3 : Int32)) fun x51 =>
                vH G 9 l1 (f_Fa_type G l1 ((shlL x49.toInt64 (32 : Int32)) ||| (x50.toInt64 &&& (4294967295 : Int64))) x51) fun x52 G53 =>
                xI nS xS (l3 + (1 : Int32)) fun x54 =>
                xI nS xS (l3 + (2 : Int32)) fun x55 =>
                xI nS xS (l3 + (3 : Int32)) fun x56 =>
                vH G53 10 l2 (f_Mo_type G53 l2 ((shlL x54.toInt64 (32 : Int32)) ||| (x55.toInt64 &&& (4294967295 : Int64))) x56) fun x57 G58 =>
                if x52 = x57 then
                  f_La_law_b1171 nS xS k18 G58 l1 l2 l3
                else
                  some ((0 : Int32), G58)
              else
                if (x2 &&& (63 : Int32)) = 6 then
                  vH G 9 l1 (f_Fa_clear G l1) fun x59 G60 =>
                  vH G60 10 l2 (f_Mo_clear G60 l2) fun x61 G62 =>
                  if x59 = x61 then
                    f_La_law_b1171 nS xS k18 G62 l1 l2 l3
                  else
                    some ((0 : Int32), G62)
                else
                  if (x2 &&& (63 : Int32)) = 7 then
                    vH G 9 l1 (f_Fa_read G l1) fun x63 G64 =>
                    vH G64 10 l2 (f_Mo_read G64 l2) fun x65 G66 =>
                    if x63 = x65 then
                      f_La_law_b1171 nS xS k18 G66 l1 l2 l3
                    else
                      some ((0 : Int32), G66)
                  else
                    if (x2 &&& (63 : Int32)) = 8 then
                      xI nS xS (l3 + (1 : Int32)) fun x67 =>
                      xI nS xS (l3 + (2 : Int32)) fun x68 =>
                      vH G 9 l1 (f_Fa_value G l1 x67 x68) fun x69 G70 =>
                      xI nS xS (l3 + (1 : Int32)) fun x71 =>
                      xI nS xS (l3 + (2 : Int32)) fun x72 =>
                      vH G70 10 l2 (f_Mo_value G70 l2 x71 x72) fun x73 G74 =>
                      if x69 = x73 then
                        f_La_law_b1171 nS xS k18 G74 l1 l2 l3
                      else
                        some ((0 : Int32), G74)
                    else
                      if (x2 &&& (63 : Int32)) = 9 then
                        xI nS xS (l3 + (1 : Int32)) fun x75 =>
                        vH G 9 l1 (f_Fa_of G l1 x75) fun x76 G77 =>
                        xI nS xS (l3 + (1 : Int32)) fun x78 =>
                        vH G77 10 l2 (f_Mo_of G77 l2 x78) fun x79 G80 =>
                        if x76 = x79 then
                          f_La_law_b1171 nS xS k18 G80 l1 l2 l3
                        else
                          some ((0 : Int32), G80)
                      else
                        if (x2 &&& (63 : Int32)) = 10 then
                          xI nS xS (l3 + (1 : Int32)) fun x81 =>
                          xI nS xS (l3 + (2 : Int32)) fun x82 =>
                          vH G 9 l1 (f_Fa_pass G l1 x81 x82) fun x83 G84 =>
                          xI nS xS (l3 + (1 : Int32)) fun x85 =>
                          xI nS xS (l3 + (2 : Int32)) fun x86 =>
                          vH G84 10 l2 (f_Mo_pass G84 l2 x85 x86) fun x87 G88 =>
                          if x83 = x87 then
                            f_La_law_b1171 nS xS k18 G88 l1 l2 l3
                          else
                            some ((0 : Int32), G88)
                        else
                          if (x2 &&& (63 : Int32)) = 11 then
                            xI nS xS (l3 + (1 : Int32)) fun x89 =>
                            xI nS xS (l3 + (2 : Int32)) fun x90 =>
                            vH G 9 l1 (f_Fa_join G l1 x89 x90) fun x91 G92 =>
                            xI nS xS (l3 + (1 : Int32)) fun x93 =>
                            xI nS xS (l3 + (2 : Int32)) fun x94 =>
                            vH G92 10 l2 (f_Mo_join G92 l2 x93 x94) fun x95 G96 =>
                            if x91 = x95 then
                              f_La_law_b1171 nS xS k18 G96 l1 l2 l3
                            else
                              some ((0 : Int32), G96)
                          else
                            if (x2 &&& (63 : Int32)) = 12 then
                              xI nS xS (l3 + (1 : Int32)) fun x97 =>
                              vH G 9 l1 (f_Fa_ask G l1 x97) fun x98 G99 =>
                              xI nS xS (l3 + (1 : Int32)) fun x100 =>
                              vH G99 10 l2 (f_Mo_ask G99 l2 x100) fun x101 G102 =>
                              if x98 = x101 then
                                f_La_law_b1171 nS xS k18 G102 l1 l2 l3
                              else
                                some ((0 : Int32), G102)
                            else
                              if (x2 &&& (63 : Int32)) = 13 then
                                vH G 9 l1 (f_Fa_night G l1) fun x103 G104 =>
                                vH G104 10 l2 (f_Mo_night G104 l2) fun x105 G106 =>
                                if x103 = x105 then
                                  f_La_law_b1171 nS xS k18 G106 l1 l2 l3
                                else
                                  some ((0 : Int32), G106)
                              else
                                if (x2 &&& (63 : Int32)) = 14 then
                                  vH G 9 l1 (f_Fa_undo G l1) fun x107 G108 =>
                                  vH G108 10 l2 (f_Mo_undo G108 l2) fun x109 G110 =>
                                  if x107 = x109 then
                                    f_La_law_b1171 nS xS k18 G110 l1 l2 l3
                                  else
                                    some ((0 : Int32), G110)
                                else
                                  if (x2 &&& (63 : Int32)) = 15 then
                                    xI nS xS (l3 + (1 : Int32)) fun x111 =>
                                    xI nS xS (l3 + (2 : Int32)) fun x112 =>
                                    vH G 9 l1 (f_Fa_owes G l1 x111 x112) fun x113 G114 =>
                                    xI nS xS (l3 + (1 : Int32)) fun x115 =>
                                    xI nS xS (l3 + (2 : Int32)) fun x116 =>
                                    vH G114 10 l2 (f_Mo_owes G114 l2 x115 x116) fun x117 G118 =>
                                    if x113 = x117 then
                                      f_La_law_b1171 nS xS k18 G118 l1 l2 l3
                                    else
                                      some ((0 : Int32), G118)
                                  else
                                    if (x2 &&& (63 : Int32)) = 16 then
                                      xI nS xS (l3 + (1 : Int32)) fun x119 =>
                                      vH G 9 l1 (f_Fa_ring G l1 x119) fun x120 G121 =>
                                      xI nS xS (l3 + (1 : Int32)) fun x122 =>
                                      vH G121 10 l2 (f_Mo_ring G121 l2 x122) fun x123 G124 =>
                                      if x120 = x123 then
                                        f_La_law_b1171 nS xS k18 G124 l1 l2 l3
                                      else
                                        some ((0 : Int32), G124)
                                    else
                                      if (x2 &&& (63 : Int32)) = 17 then
                                        vH G 9 l1 (f_Fa_cancel G l1) fun x125 G126 =>
                                        vH G126 10 l2 (f_Mo_cancel G126 l2) fun x127 G128 =>
                                        if x125 = x127 then
                                          f_La_law_b1171 nS xS k18 G128 l1 l2 l3
                                        else
                                          some ((0 : Int32), G128)
                                      else
                                        if (x2 &&& (63 : Int32)) = 18 then
                                          xI nS xS (l3 + (1 : Int32)) fun x129 =>
                                          vH G 9 l1 (f_Fa_net G l1 x129) fun x130 G131 =>
                                          xI nS xS (l3 + (1 : Int32)) fun x132 =>
                                          vH G131 10 l2 (f_Mo_net G131 l2 x132) fun x133 G134 =>
                                          if x130 = x133 then
                                            f_La_law_b1171 nS xS k18 G134 l1 l2 l3
                                          else
                                            some ((0 : Int32), G134)
                                        else
                                          if (x2 &&& (63 : Int32)) = 19 then
                                            vH G 9 l1 (f_Fa_fewest G l1) fun x135 G136 =>
                                            vH G136 10 l2 (f_Mo_fewest G136 l2) fun x137 G138 =>
                                            if x135 = x137 then
                                              f_La_law_b1171 nS xS k18 G138 l1 l2 l3
                                            else
                                              some ((0 : Int32), G138)
                                          else
                                            if (x2 &&& (63 : Int32)) = 20 then
                                              xI nS xS (l3 + (1 : Int32)) fun x139 =>
                                              vH G 9 l1 (f_Fa_met G l1 x139) fun x140 G141 =>
                                              xI nS xS (l3 + (1 : Int32)) fun x142 =>
                                              vH G141 10 l2 (f_Mo_met G141 l2 x142) fun x143 G144 =>
                                              if x140 = x143 then
                                                f_La_law_b1171 nS xS k18 G144 l1 l2 l3
                                              else
                                                some ((0 : Int32), G144)
                                            else
                                              if (x2 &&& (63 : Int32)) = 21 then
                                                xI nS xS (l3 + (1 : Int32)) fun x145 =>
                                                vH G 9 l1 (f_Fa_plan G l1 x145) fun x146 G147 =>
                                                xI nS xS (l3 + (1 : Int32)) fun x148 =>
                                                vH G147 10 l2 (f_Mo_plan G147 l2 x148) fun x149 G150 =>
                                                if x146 = x149 then
                                                  f_La_law_b1171 nS xS k18 G150 l1 l2 l3
                                                else
                                                  some ((0 : Int32), G150)
                                              else
                                                if (x2 &&& (63 : Int32)) = 22 then
                                                  xI nS xS (l3 + (1 : Int32)) fun x151 =>
                                                  xI nS xS (l3 + (2 : Int32)) fun x152 =>
                                                  vH G 9 l1 (f_Fa_fire G l1 x151 x152) fun x153 G154 =>
                                                  xI nS xS (l3 + (1 : Int32)) fun x155 =>
                                                  xI nS xS (l3 + (2 : Int32)) fun x156 =>
                                                  vH G154 10 l2 (f_Mo_fire G154 l2 x155 x156) fun x157 G158 =>
                                                  if x153 = x157 then
                                                    f_La_law_b1171 nS xS k18 G158 l1 l2 l3
                                                  else
                                                    some ((0 : Int32), G158)
                                                else
                                                  if (x2 &&& (63 : Int32)) = 23 then
                                                    xI nS xS (l3 + (1 : Int32)) fun x159 =>
                                                    xI nS xS (l3 + (2 : Int32)) fun x160 =>
                                                    vH G 9 l1 (f_Fa_rate G l1 x159 x160) fun x161 G162 =>
                                                    xI nS xS (l3 + (1 : Int32)) fun x163 =>
                                                    xI nS xS (l3 + (2 : Int32)) fun x164 =>
                                                    vH G162 10 l2 (f_Mo_rate G162 l2 x163 x164) fun x165 G166 =>
                                                    if x161 = x165 then
                                                      f_La_law_b1171 nS xS k18 G166 l1 l2 l3
                                                    else
                                                      some ((0 : Int32), G166)
                                                  else
                                                    if (x2 &&& (63 : Int32)) = 24 then
                                                      xI nS xS (l3 + (1 : Int32)) fun x167 =>
                                                      xI nS xS (l3 + (2 : Int32)) fun x168 =>
                                                      vH G 9 l1 (f_Fa_set G l1 x167 x168) fun x169 G170 =>
                                                      xI nS xS (l3 + (1 : Int32)) fun x171 =>
                                                      xI nS xS (l3 + (2 : Int32)) fun x172 =>
                                                      vH G170 10 l2 (f_Mo_set G170 l2 x171 x172) fun x173 G174 =>
                                                      if x169 = x173 then
                                                        f_La_law_b1171 nS xS k18 G174 l1 l2 l3
                                                      else
                                                        some ((0 : Int32), G174)
                                                    else
                                                      if (x2 &&& (63 : Int32)) = 25 then
                                                        vP G 9 l1 (f_Fa_settles G l1) fun x175 =>
                                                        vH G 10 l2 (f_Mo_settles G l2) fun x176 G177 =>
                                                        if x175 = x176 then
                                                          f_La_law_b1171 nS xS k18 G177 l1 l2 l3
                                                        else
                                                          some ((0 : Int32), G177)
                                                      else
                                                        if (x2 &&& (63 : Int32)) = 26 then
                                                          xI nS xS (l3 + (1 : Int32)) fun x178 =>
                                                          xI nS xS (l3 + (2 : Int32)) fun x179 =>
                                                          xI nS xS (l3 + (3 : Int32)) fun x180 =>
                                                          vH G 9 l1 (f_Fa_told G l1 x178 x179 x180) fun x181 G182 =>
                                                          xI nS xS (l3 + (1 : Int32)) fun x183 =>
                                                          xI nS xS (l3 + (2 : Int32)) fun x184 =>
                                                          xI nS xS (l3 + (3 : Int32)) fun x185 =>
                                                          vH G182 10 l2 (f_Mo_told G182 l2 x183 x184 x185) fun x186 G187 =>
                                                          if x181 = x186 then
                                                            f_La_law_b1171 nS xS k18 G187 l1 l2 l3
                                                          else
                                                            some ((0 : Int32), G187)
                                                        else
                                                          if (x2 &&& (63 : Int32)) = 27 then
                                                            vP G 9 l1 (f_Fa_forged G l1) fun x188 =>
                                                            vH G 10 l2 (f_Mo_forged G l2) fun x189 G190 =>
                                                            if x188 = x189 then
                                                              f_La_law_b1171 nS xS k18 G190 l1 l2 l3
                                                            else
                                                              some ((0 : Int32), G190)
                                                          else
                                                            if (x2 &&& (63 : Int32)) = 28 then
                                                              vH G 9 l1 (f_Fa_forget G l1) fun x191 G192 =>
                                                              vH G192 10 l2 (f_Mo_forget G192 l2) fun x193 G194 =>
                                                              if x191 = x193 then
                                                                f_La_law_b1171 nS xS k18 G194 l1 l2 l3
                                                              else
                                                                some ((0 : Int32), G194)
                                                            else
                                                              if (x2 &&& (63 : Int32)) = 29 then
                                                                xI nS xS (l3 + (1 : Int32)) fun x195 =>
                                                                vH G 9 l1 (f_Fa_goesOff G l1 x195) fun x196 G197 =>
                                                                xI nS xS (l3 + (1 : Int32)) fun x198 =>
                                                                vH G197 10 l2 (f_Mo_goesOff G197 l2 x198) fun x199 G200 =>
                                                                if x196 = x199 then
                                                                  f_La_law_b1171 nS xS k18 G200 l1 l2 l3
                                                                else
                                                                  some ((0 : Int32), G200)
                                                              else
                                                                if (x2 &&& (63 : Int32)) = 30 then
                                                                  xI nS xS (l3 + (1 : Int32)) fun x201 =>
                                                                  xI nS xS (l3 + (2 : Int32)) fun x202 =>
                                                                  vH G 9 l1 (f_Fa_kept G l1 x201 x202) fun x203 G204 =>
                                                                  xI nS xS (l3 + (1 : Int32)) fun x205 =>
                                                                  xI nS xS (l3 + (2 : Int32)) fun x206 =>
                                                                  vH G204 10 l2 (f_Mo_kept G204 l2 x205 x206) fun x207 G208 =>
                                                                  if x203 = x207 then
                                                                    f_La_law_b1171 nS xS k18 G208 l1 l2 l3
                                                                  else
                                                                    some ((0 : Int32), G208)
                                                                else
                                                                  if (x2 &&& (63 : Int32)) = 31 then
                                                                    xI nS xS (l3 + (1 : Int32)) fun x209 =>
                                                                    vH G 9 l1 (f_Fa_part G l1 x209) fun x210 G211 =>
                                                                    xI nS xS (l3 + (1 : Int32)) fun x212 =>
                                                                    vH G211 10 l2 (f_Mo_part G211 l2 x212) fun x213 G214 =>
                                                                    if (lg_cmp x210 x213) = 0 then
                                                                      f_La_law_b1171 nS xS k18 G214 l1 l2 l3
                                                                    else
                                                                      some ((0 : Int32), G214)
                                                                  else
                                                                    if (x2 &&& (63 : Int32)) = 32 then
                                                                      xI nS xS (l3 + (1 : Int32)) fun x215 =>
                                                                      vH G 9 l1 (f_Fa_image G l1 x215) fun x216 G217 =>
                                                                      xI nS xS (l3 + (1 : Int32)) fun x218 =>
                                                                      vH G217 10 l2 (f_Mo_image G217 l2 x218) fun x219 G220 =>
                                                                      if x216 = x219 then
                                                                        f_La_law_b1171 nS xS k18 G220 l1 l2 l3
                                                                      else
                                                                        some ((0 : Int32), G220)
                                                                    else
                                                                      if (x2 &&& (63 : Int32)) = 33 then
                                                                        xI nS xS (l3 + (1 : Int32)) fun x221 =>
                                                                        vH G 9 l1 (f_Fa_from G l1 x221) fun x222 G223 =>
                                                                        xI nS xS (l3 + (1 : Int32)) fun x224 =>
                                                                        vH G223 10 l2 (f_Mo_from G223 l2 x224) fun x225 G226 =>
                                                                        if x222 = x225 then
                                                                          f_La_law_b1171 nS xS k18 G226 l1 l2 l3
                                                                        else
                                                                          some ((0 : Int32), G226)
                                                                      else
                                                                        if (x2 &&& (63 : Int32)) = 34 then
                                                                          xI nS xS (l3 + (1 : Int32)) fun x227 =>
                                                                          vH G 9 l1 (f_Fa_status G l1 x227) fun x228 G229 =>
                                                                          xI nS xS (l3 + (1 : Int32)) fun x230 =>
                                                                          vH G229 10 l2 (f_Mo_status G229 l2 x230) fun x231 G232 =>
                                                                          if x228 = x231 then
                                                                            f_La_law_b1171 nS xS k18 G232 l1 l2 l3
                                                                          else
                                                                            some ((0 : Int32), G232)
                                                                        else
                                                                          if (x2 &&& (63 : Int32)) = 35 then
                                                                            xI nS xS (l3 + (1 : Int32)) fun x233 =>
                                                                            vH G 9 l1 (f_Fa_count G l1 x233) fun x234 G235 =>
                                                                            xI nS xS (l3 + (1 : Int32)) fun x236 =>
                                                                            vH G235 10 l2 (f_Mo_count G235 l2 x236) fun x237 G238 =>
                                                                            if x234 = x237 then
                                                                              f_La_law_b1171 nS xS k18 G238 l1 l2 l3
                                                                            else
                                                                              some ((0 : Int32), G238)
                                                                          else
                                                                            if (x2 &&& (63 : Int32)) = 36 then
                                                                              vP G 9 l1 (f_Fa_digest G l1) fun x239 =>
                                                                              vP G 10 l2 (f_Mo_digest G l2) fun x240 =>
                                                                              if (lg_cmp x239 x240) = 0 then
                                                                                f_La_law_b1171 nS xS k18 G l1 l2 l3
                                                                              else
                                                                                some ((0 : Int32), G)
                                                                            else
                                                                              f_La_law_b1171 nS xS k18 G l1 l2 l3
def f_La_law_b18 (nS : Nat) (xS : Nat → Int32) : Nat → Hp → Nat → Nat → Int32 → Option (Int32 × Hp)
  | 0, _, _, _, _ => none
  | nn + 1, G, l1, l2, l3 => f_La_law_b18_k nS xS (f_La_law_b18 nS xS nn) G l1 l2 l3
def f_La_law (nS : Nat) (xS : Nat → Int32) (G : Hp) : Option (Int32 × Hp) :=
  nO G 9 fun a2 G1 =>
  cP (f_Fa_init G1 a2) fun G3 =>
  nO G3 10 fun a5 G4 =>
  cP (f_Mo_init G4 a5) fun G6 =>
  f_La_law_b18 nS xS  FU G6 a2 a5 (0 : Int32)
