/-! THE LAW AS A FUNCTION -/
def law_L18 (xs : Nat → Int32) (Ls : Nat) : Nat → Int → Int → Int → Int → Mem → Option (Int × Mem)
  | 0, _, _, _, _, _ => none
  | n + 1, v0, v1, v2, v3, μ =>
    if (w32 ((Ls : Int) - 6)) < v3 then
      some (1, μ)
    else
      bd (sls xs Ls v3) fun x1 =>
      if (and32 x1 63) = 0 then
        bd (sls xs Ls (w32 (v3 + 1))) fun x2 =>
        bd (sls xs Ls (w32 (v3 + 2))) fun x3 =>
        bd (sls xs Ls (w32 (v3 + 3))) fun x4 =>
        bd (sls xs Ls (w32 (v3 + 4))) fun x5 =>
        bd (sls xs Ls (w32 (v3 + 5))) fun x6 =>
        bd (isk 11 μ v1) fun _ =>
        bd2 (T_feed v1 x2 x3 x4 x5 x6 μ) fun x7 μ8 =>
        bd (sls xs Ls (w32 (v3 + 1))) fun x9 =>
        bd (sls xs Ls (w32 (v3 + 2))) fun x10 =>
        bd (sls xs Ls (w32 (v3 + 3))) fun x11 =>
        bd (sls xs Ls (w32 (v3 + 4))) fun x12 =>
        bd (sls xs Ls (w32 (v3 + 5))) fun x13 =>
        bd (isk 12 μ8 v2) fun _ =>
        bd2 (M_feed v2 x9 x10 x11 x12 x13 μ8) fun x14 μ15 =>
        if x7 = x14 then
          law_L18 xs Ls n v0 v1 v2 (w32 (v3 + 6)) μ15
        else
          none
      else
        if (and32 x1 63) = 1 then
        bd (sls xs Ls (w32 (v3 + 1))) fun x16 =>
        bd (isk 11 μ v1) fun _ =>
        bd2 (T_kingdom v1 x16 μ) fun x17 μ18 =>
        bd (sls xs Ls (w32 (v3 + 1))) fun x19 =>
        bd (isk 12 μ18 v2) fun _ =>
        bd2 (M_kingdom v2 x19 μ18) fun x20 μ21 =>
        if x17 = x20 then
          law_L18 xs Ls n v0 v1 v2 (w32 (v3 + 6)) μ21
        else
          none
      else
        if (and32 x1 63) = 2 then
        bd (sls xs Ls (w32 (v3 + 1))) fun x22 =>
        bd (isk 11 μ v1) fun _ =>
        bd2 (T_fault v1 x22 μ) fun x23 μ24 =>
        bd (sls xs Ls (w32 (v3 + 1))) fun x25 =>
        bd (isk 12 μ24 v2) fun _ =>
        bd2 (M_fault v2 x25 μ24) fun x26 μ27 =>
        if x23 = x26 then
          law_L18 xs Ls n v0 v1 v2 (w32 (v3 + 6)) μ27
        else
          none
      else
        if (and32 x1 63) = 3 then
        bd (sls xs Ls (w32 (v3 + 1))) fun x28 =>
        bd (sls xs Ls (w32 (v3 + 2))) fun x29 =>
        bd (isk 11 μ v1) fun _ =>
        bd2 (T_road v1 x28 x29 μ) fun x30 μ31 =>
        bd (sls xs Ls (w32 (v3 + 1))) fun x32 =>
        bd (sls xs Ls (w32 (v3 + 2))) fun x33 =>
        bd (isk 12 μ31 v2) fun _ =>
        bd2 (M_road v2 x32 x33 μ31) fun x34 μ35 =>
        if x30 = x34 then
          law_L18 xs Ls n v0 v1 v2 (w32 (v3 + 6)) μ35
        else
          none
      else
        if (and32 x1 63) = 4 then
        bd (sls xs Ls (w32 (v3 + 1))) fun x36 =>
        bd (isk 11 μ v1) fun _ =>
        bd2 (T_from v1 x36 μ) fun x37 μ38 =>
        bd (sls xs Ls (w32 (v3 + 1))) fun x39 =>
        bd (isk 12 μ38 v2) fun _ =>
        bd2 (M_from v2 x39 μ38) fun x40 μ41 =>
        if x37 = x40 then
          law_L18 xs Ls n v0 v1 v2 (w32 (v3 + 6)) μ41
        else
          none
      else
        if (and32 x1 63) = 5 then
        bd (sls xs Ls (w32 (v3 + 1))) fun x42 =>
        bd (sls xs Ls (w32 (v3 + 2))) fun x43 =>
        bd (
            if x43 = 0 then
              some 0
            else
              some 1) fun (y44 : Int) =>
        bd (isk 11 μ v1) fun _ =>
        bd2 (T_close v1 x42 y44 μ) fun x45 μ46 =>
        bd (sls xs Ls (w32 (v3 + 1))) fun x47 =>
        bd (sls xs Ls (w32 (v3 + 2))) fun x48 =>
        bd (
            if x48 = 0 then
              some 0
            else
              some 1) fun (y49 : Int) =>
        bd (isk 12 μ46 v2) fun _ =>
        bd2 (M_close v2 x47 y49 μ46) fun x50 μ51 =>
        if x45 = x50 then
          law_L18 xs Ls n v0 v1 v2 (w32 (v3 + 6)) μ51
        else
          none
      else
        if (and32 x1 63) = 6 then
        bd (sls xs Ls (w32 (v3 + 1))) fun x52 =>
        bd (sls xs Ls (w32 (v3 + 2))) fun x53 =>
        bd (isk 11 μ v1) fun _ =>
        bd2 (T_when v1 x52 x53 μ) fun x54 μ55 =>
        bd (sls xs Ls (w32 (v3 + 1))) fun x56 =>
        bd (sls xs Ls (w32 (v3 + 2))) fun x57 =>
        bd (isk 12 μ55 v2) fun _ =>
        bd2 (M_when v2 x56 x57 μ55) fun x58 μ59 =>
        if x54 = x58 then
          law_L18 xs Ls n v0 v1 v2 (w32 (v3 + 6)) μ59
        else
          none
      else
        if (and32 x1 63) = 7 then
        bd (sls xs Ls (w32 (v3 + 1))) fun x60 =>
        bd (isk 11 μ v1) fun _ =>
        bd2 (T_summer v1 x60 μ) fun x61 μ62 =>
        bd (sls xs Ls (w32 (v3 + 1))) fun x63 =>
        bd (isk 12 μ62 v2) fun _ =>
        bd2 (M_summer v2 x63 μ62) fun x64 μ65 =>
        if x61 = x64 then
          law_L18 xs Ls n v0 v1 v2 (w32 (v3 + 6)) μ65
        else
          none
      else
        if (and32 x1 63) = 8 then
        bd (sls xs Ls (w32 (v3 + 1))) fun x66 =>
        bd (isk 11 μ v1) fun _ =>
        bd2 (T_comes v1 x66 μ) fun x67 μ68 =>
        bd (sls xs Ls (w32 (v3 + 1))) fun x69 =>
        bd (isk 12 μ68 v2) fun _ =>
        bd2 (M_comes v2 x69 μ68) fun x70 μ71 =>
        if x67 = x70 then
          law_L18 xs Ls n v0 v1 v2 (w32 (v3 + 6)) μ71
        else
          none
      else
        if (and32 x1 63) = 9 then
        bd (sls xs Ls (w32 (v3 + 1))) fun x72 =>
        bd (sls xs Ls (w32 (v3 + 2))) fun x73 =>
        bd (isk 11 μ v1) fun _ =>
        bd2 (T_of v1 x72 x73 μ) fun x74 μ75 =>
        bd (sls xs Ls (w32 (v3 + 1))) fun x76 =>
        bd (sls xs Ls (w32 (v3 + 2))) fun x77 =>
        bd (isk 12 μ75 v2) fun _ =>
        bd2 (M_of v2 x76 x77 μ75) fun x78 μ79 =>
        if x74 = x78 then
          law_L18 xs Ls n v0 v1 v2 (w32 (v3 + 6)) μ79
        else
          none
      else
        if (and32 x1 63) = 10 then
        bd (sls xs Ls (w32 (v3 + 1))) fun x80 =>
        bd (sls xs Ls (w32 (v3 + 2))) fun x81 =>
        bd (sls xs Ls (w32 (v3 + 3))) fun x82 =>
        bd (isk 11 μ v1) fun _ =>
        bd2 (T_slip v1 x80 x81 x82 μ) fun x83 μ84 =>
        bd (sls xs Ls (w32 (v3 + 1))) fun x85 =>
        bd (sls xs Ls (w32 (v3 + 2))) fun x86 =>
        bd (sls xs Ls (w32 (v3 + 3))) fun x87 =>
        bd (isk 12 μ84 v2) fun _ =>
        bd2 (M_slip v2 x85 x86 x87 μ84) fun x88 μ89 =>
        if x83 = x88 then
          law_L18 xs Ls n v0 v1 v2 (w32 (v3 + 6)) μ89
        else
          none
      else
        if (and32 x1 63) = 11 then
        bd (sls xs Ls (w32 (v3 + 1))) fun x90 =>
        bd (sls xs Ls (w32 (v3 + 2))) fun x91 =>
        bd (isk 11 μ v1) fun _ =>
        bd2 (T_go v1 x90 x91 μ) fun x92 μ93 =>
        bd (sls xs Ls (w32 (v3 + 1))) fun x94 =>
        bd (sls xs Ls (w32 (v3 + 2))) fun x95 =>
        bd (isk 12 μ93 v2) fun _ =>
        bd2 (M_go v2 x94 x95 μ93) fun x96 μ97 =>
        if x92 = x96 then
          law_L18 xs Ls n v0 v1 v2 (w32 (v3 + 6)) μ97
        else
          none
      else
        if (and32 x1 63) = 12 then
        bd (sls xs Ls (w32 (v3 + 1))) fun x98 =>
        bd (isk 11 μ v1) fun _ =>
        bd2 (T_toss v1 x98 μ) fun x99 μ100 =>
        bd (sls xs Ls (w32 (v3 + 1))) fun x101 =>
        bd (isk 12 μ100 v2) fun _ =>
        bd2 (M_toss v2 x101 μ100) fun x102 μ103 =>
        if x99 = x102 then
          law_L18 xs Ls n v0 v1 v2 (w32 (v3 + 6)) μ103
        else
          none
      else
        if (and32 x1 63) = 13 then
        bd (sls xs Ls (w32 (v3 + 1))) fun x104 =>
        bd (sls xs Ls (w32 (v3 + 2))) fun x105 =>
        bd (isk 11 μ v1) fun _ =>
        bd2 (T_rest v1 x104 x105 μ) fun x106 μ107 =>
        bd (sls xs Ls (w32 (v3 + 1))) fun x108 =>
        bd (sls xs Ls (w32 (v3 + 2))) fun x109 =>
        bd (isk 12 μ107 v2) fun _ =>
        bd2 (M_rest v2 x108 x109 μ107) fun x110 μ111 =>
        if x106 = x110 then
          law_L18 xs Ls n v0 v1 v2 (w32 (v3 + 6)) μ111
        else
          none
      else
        if (and32 x1 63) = 14 then
        bd (sls xs Ls (w32 (v3 + 1))) fun x112 =>
        bd (sls xs Ls (w32 (v3 + 2))) fun x113 =>
        bd (sls xs Ls (w32 (v3 + 3))) fun x114 =>
        bd (isk 11 μ v1) fun _ =>
        bd2 (T_give v1 x112 x113 x114 μ) fun x115 μ116 =>
        bd (sls xs Ls (w32 (v3 + 1))) fun x117 =>
        bd (sls xs Ls (w32 (v3 + 2))) fun x118 =>
        bd (sls xs Ls (w32 (v3 + 3))) fun x119 =>
        bd (isk 12 μ116 v2) fun _ =>
        bd2 (M_give v2 x117 x118 x119 μ116) fun x120 μ121 =>
        if x115 = x120 then
          law_L18 xs Ls n v0 v1 v2 (w32 (v3 + 6)) μ121
        else
          none
      else
        if (and32 x1 63) = 15 then
        bd (sls xs Ls (w32 (v3 + 1))) fun x122 =>
        bd (sls xs Ls (w32 (v3 + 2))) fun x123 =>
        bd (isk 11 μ v1) fun _ =>
        bd2 (T_change v1 x122 x123 μ) fun x124 μ125 =>
        bd (sls xs Ls (w32 (v3 + 1))) fun x126 =>
        bd (sls xs Ls (w32 (v3 + 2))) fun x127 =>
        bd (isk 12 μ125 v2) fun _ =>
        bd2 (M_change v2 x126 x127 μ125) fun x128 μ129 =>
        if x124 = x128 then
          law_L18 xs Ls n v0 v1 v2 (w32 (v3 + 6)) μ129
        else
          none
      else
        if (and32 x1 63) = 16 then
        bd (sls xs Ls (w32 (v3 + 1))) fun x130 =>
        bd (sls xs Ls (w32 (v3 + 2))) fun x131 =>
        bd (sls xs Ls (w32 (v3 + 3))) fun x132 =>
        bd (isk 11 μ v1) fun _ =>
        bd2 (T_judge v1 x130 x131 x132 μ) fun x133 μ134 =>
        bd (sls xs Ls (w32 (v3 + 1))) fun x135 =>
        bd (sls xs Ls (w32 (v3 + 2))) fun x136 =>
        bd (sls xs Ls (w32 (v3 + 3))) fun x137 =>
        bd (isk 12 μ134 v2) fun _ =>
        bd2 (M_judge v2 x135 x136 x137 μ134) fun x138 μ139 =>
        if x133 = x138 then
          law_L18 xs Ls n v0 v1 v2 (w32 (v3 + 6)) μ139
        else
          none
      else
        if (and32 x1 63) = 17 then
        bd (sls xs Ls (w32 (v3 + 1))) fun x140 =>
        bd (sls xs Ls (w32 (v3 + 2))) fun x141 =>
        bd (isk 11 μ v1) fun _ =>
        bd2 (T_perform v1 x140 x141 μ) fun x142 μ143 =>
        bd (sls xs Ls (w32 (v3 + 1))) fun x144 =>
        bd (sls xs Ls (w32 (v3 + 2))) fun x145 =>
        bd (isk 12 μ143 v2) fun _ =>
        bd2 (M_perform v2 x144 x145 μ143) fun x146 μ147 =>
        if x142 = x146 then
          law_L18 xs Ls n v0 v1 v2 (w32 (v3 + 6)) μ147
        else
          none
      else
        if (and32 x1 63) = 18 then
        bd (sls xs Ls (w32 (v3 + 1))) fun x148 =>
        bd (isk 11 μ v1) fun _ =>
        bd2 (T_treasury v1 x148 μ) fun x149 μ150 =>
        bd (sls xs Ls (w32 (v3 + 1))) fun x151 =>
        bd (isk 12 μ150 v2) fun _ =>
        bd2 (M_treasury v2 x151 μ150) fun x152 μ153 =>
        if x149 = x152 then
          law_L18 xs Ls n v0 v1 v2 (w32 (v3 + 6)) μ153
        else
          none
      else
        if (and32 x1 63) = 19 then
        bd (sls xs Ls (w32 (v3 + 1))) fun x154 =>
        bd (isk 11 μ v1) fun _ =>
        bd2 (T_owes v1 x154 μ) fun x155 μ156 =>
        bd (sls xs Ls (w32 (v3 + 1))) fun x157 =>
        bd (isk 12 μ156 v2) fun _ =>
        bd2 (M_owes v2 x157 μ156) fun x158 μ159 =>
        if x155 = x158 then
          law_L18 xs Ls n v0 v1 v2 (w32 (v3 + 6)) μ159
        else
          none
      else
        if (and32 x1 63) = 20 then
        bd (isk 11 μ v1) fun _ =>
        bd2 (T_lapse v1 μ) fun x160 μ161 =>
        bd (isk 12 μ161 v2) fun _ =>
        bd2 (M_lapse v2 μ161) fun x162 μ163 =>
        if x160 = x162 then
          law_L18 xs Ls n v0 v1 v2 (w32 (v3 + 6)) μ163
        else
          none
      else
        if (and32 x1 63) = 21 then
        bd (sls xs Ls (w32 (v3 + 1))) fun x164 =>
        bd (isk 11 μ v1) fun _ =>
        bd2 (T_blocked v1 x164 μ) fun x165 μ166 =>
        bd (sls xs Ls (w32 (v3 + 1))) fun x167 =>
        bd (isk 12 μ166 v2) fun _ =>
        bd2 (M_blocked v2 x167 μ166) fun x168 μ169 =>
        if x165 = x168 then
          law_L18 xs Ls n v0 v1 v2 (w32 (v3 + 6)) μ169
        else
          none
      else
        if (and32 x1 63) = 22 then
        bd (sls xs Ls (w32 (v3 + 1))) fun x170 =>
        bd (sls xs Ls (w32 (v3 + 2))) fun x171 =>
        bd (isk 11 μ v1) fun _ =>
        bd2 (T_homeward v1 x170 x171 μ) fun x172 μ173 =>
        bd (sls xs Ls (w32 (v3 + 1))) fun x174 =>
        bd (sls xs Ls (w32 (v3 + 2))) fun x175 =>
        bd (isk 12 μ173 v2) fun _ =>
        bd2 (M_homeward v2 x174 x175 μ173) fun x176 μ177 =>
        if x172 = x176 then
          law_L18 xs Ls n v0 v1 v2 (w32 (v3 + 6)) μ177
        else
          none
      else
        if (and32 x1 63) = 23 then
        bd (sls xs Ls (w32 (v3 + 1))) fun x178 =>
        bd (isk 11 μ v1) fun _ =>
        bd2 (T_safe v1 x178 μ) fun x179 μ180 =>
        bd (sls xs Ls (w32 (v3 + 1))) fun x181 =>
        bd (isk 12 μ180 v2) fun _ =>
        bd2 (M_safe v2 x181 μ180) fun x182 μ183 =>
        if x179 = x182 then
          law_L18 xs Ls n v0 v1 v2 (w32 (v3 + 6)) μ183
        else
          none
      else
        if (and32 x1 63) = 24 then
        bd (sls xs Ls (w32 (v3 + 1))) fun x184 =>
        bd (sls xs Ls (w32 (v3 + 2))) fun x185 =>
        bd (isk 11 μ v1) fun _ =>
        bd2 (T_needs v1 x184 x185 μ) fun x186 μ187 =>
        bd (sls xs Ls (w32 (v3 + 1))) fun x188 =>
        bd (sls xs Ls (w32 (v3 + 2))) fun x189 =>
        bd (isk 12 μ187 v2) fun _ =>
        bd2 (M_needs v2 x188 x189 μ187) fun x190 μ191 =>
        if x186 = x190 then
          law_L18 xs Ls n v0 v1 v2 (w32 (v3 + 6)) μ191
        else
          none
      else
        if (and32 x1 63) = 25 then
        bd (sls xs Ls (w32 (v3 + 1))) fun x192 =>
        bd (isk 11 μ v1) fun _ =>
        bd2 (T_partner v1 x192 μ) fun x193 μ194 =>
        bd (sls xs Ls (w32 (v3 + 1))) fun x195 =>
        bd (isk 12 μ194 v2) fun _ =>
        bd2 (M_partner v2 x195 μ194) fun x196 μ197 =>
        if x193 = x196 then
          law_L18 xs Ls n v0 v1 v2 (w32 (v3 + 6)) μ197
        else
          none
      else
        if (and32 x1 63) = 26 then
        bd (sls xs Ls (w32 (v3 + 1))) fun x198 =>
        bd (sls xs Ls (w32 (v3 + 2))) fun x199 =>
        bd (isk 11 μ v1) fun _ =>
        bd2 (T_cheapest v1 x198 x199 μ) fun x200 μ201 =>
        bd (sls xs Ls (w32 (v3 + 1))) fun x202 =>
        bd (sls xs Ls (w32 (v3 + 2))) fun x203 =>
        bd (isk 12 μ201 v2) fun _ =>
        bd2 (M_cheapest v2 x202 x203 μ201) fun x204 μ205 =>
        if x200 = x204 then
          law_L18 xs Ls n v0 v1 v2 (w32 (v3 + 6)) μ205
        else
          none
      else
        if (and32 x1 63) = 27 then
        bd (sls xs Ls (w32 (v3 + 1))) fun x206 =>
        bd (sls xs Ls (w32 (v3 + 2))) fun x207 =>
        bd (isk 11 μ v1) fun _ =>
        bd2 (T_price v1 x206 x207 μ) fun x208 μ209 =>
        bd (sls xs Ls (w32 (v3 + 1))) fun x210 =>
        bd (sls xs Ls (w32 (v3 + 2))) fun x211 =>
        bd (isk 12 μ209 v2) fun _ =>
        bd2 (M_price v2 x210 x211 μ209) fun x212 μ213 =>
        if x208 = x212 then
          law_L18 xs Ls n v0 v1 v2 (w32 (v3 + 6)) μ213
        else
          none
      else
        if (and32 x1 63) = 28 then
        bd (sls xs Ls (w32 (v3 + 1))) fun x214 =>
        bd (sls xs Ls (w32 (v3 + 2))) fun x215 =>
        bd (sls xs Ls (w32 (v3 + 3))) fun x216 =>
        bd (isk 11 μ v1) fun _ =>
        bd2 (T_gain v1 x214 x215 x216 μ) fun x217 μ218 =>
        bd (sls xs Ls (w32 (v3 + 1))) fun x219 =>
        bd (sls xs Ls (w32 (v3 + 2))) fun x220 =>
        bd (sls xs Ls (w32 (v3 + 3))) fun x221 =>
        bd (isk 12 μ218 v2) fun _ =>
        bd2 (M_gain v2 x219 x220 x221 μ218) fun x222 μ223 =>
        if x217 = x222 then
          law_L18 xs Ls n v0 v1 v2 (w32 (v3 + 6)) μ223
        else
          none
      else
        if (and32 x1 63) = 29 then
        bd (sls xs Ls (w32 (v3 + 1))) fun x224 =>
        bd (sls xs Ls (w32 (v3 + 2))) fun x225 =>
        bd (sls xs Ls (w32 (v3 + 3))) fun x226 =>
        bd (sls xs Ls (w32 (v3 + 4))) fun x227 =>
        bd (isk 11 μ v1) fun _ =>
        bd2 (T_through v1 x224 x225 x226 x227 μ) fun x228 μ229 =>
        bd (sls xs Ls (w32 (v3 + 1))) fun x230 =>
        bd (sls xs Ls (w32 (v3 + 2))) fun x231 =>
        bd (sls xs Ls (w32 (v3 + 3))) fun x232 =>
        bd (sls xs Ls (w32 (v3 + 4))) fun x233 =>
        bd (isk 12 μ229 v2) fun _ =>
        bd2 (M_through v2 x230 x231 x232 x233 μ229) fun x234 μ235 =>
        if x228 = x234 then
          law_L18 xs Ls n v0 v1 v2 (w32 (v3 + 6)) μ235
        else
          none
      else
        if (and32 x1 63) = 30 then
        bd (sls xs Ls (w32 (v3 + 1))) fun x236 =>
        bd (sls xs Ls (w32 (v3 + 2))) fun x237 =>
        bd (isk 11 μ v1) fun _ =>
        bd2 (T_journeys v1 x236 x237 μ) fun x238 μ239 =>
        bd (sls xs Ls (w32 (v3 + 1))) fun x240 =>
        bd (sls xs Ls (w32 (v3 + 2))) fun x241 =>
        bd (isk 12 μ239 v2) fun _ =>
        bd2 (M_journeys v2 x240 x241 μ239) fun x242 μ243 =>
        if x238 = x242 then
          law_L18 xs Ls n v0 v1 v2 (w32 (v3 + 6)) μ243
        else
          none
      else
        if (and32 x1 63) = 31 then
        bd (sls xs Ls (w32 (v3 + 1))) fun x244 =>
        bd (isk 11 μ v1) fun _ =>
        bd2 (T_forged v1 x244 μ) fun x245 μ246 =>
        bd (sls xs Ls (w32 (v3 + 1))) fun x247 =>
        bd (isk 12 μ246 v2) fun _ =>
        bd2 (M_forged v2 x247 μ246) fun x248 μ249 =>
        if x245 = x248 then
          law_L18 xs Ls n v0 v1 v2 (w32 (v3 + 6)) μ249
        else
          none
      else
        if (and32 x1 63) = 32 then
        bd (sls xs Ls (w32 (v3 + 1))) fun x250 =>
        bd (sls xs Ls (w32 (v3 + 2))) fun x251 =>
        bd (sls xs Ls (w32 (v3 + 3))) fun x252 =>
        bd (sls xs Ls (w32 (v3 + 4))) fun x253 =>
        bd (isk 11 μ v1) fun _ =>
        bd2 (T_journey v1 x250 x251 x252 x253 μ) fun x254 μ255 =>
        bd (sls xs Ls (w32 (v3 + 1))) fun x256 =>
        bd (sls xs Ls (w32 (v3 + 2))) fun x257 =>
        bd (sls xs Ls (w32 (v3 + 3))) fun x258 =>
        bd (sls xs Ls (w32 (v3 + 4))) fun x259 =>
        bd (isk 12 μ255 v2) fun _ =>
        bd2 (M_journey v2 x256 x257 x258 x259 μ255) fun x260 μ261 =>
        if x254 = x260 then
          law_L18 xs Ls n v0 v1 v2 (w32 (v3 + 6)) μ261
        else
          none
      else
        if (and32 x1 63) = 33 then
        bd (sls xs Ls (w32 (v3 + 1))) fun x262 =>
        bd (sls xs Ls (w32 (v3 + 2))) fun x263 =>
        bd (sls xs Ls (w32 (v3 + 3))) fun x264 =>
        bd (sls xs Ls (w32 (v3 + 4))) fun x265 =>
        bd (isk 11 μ v1) fun _ =>
        bd2 (T_lane v1 x262 x263 x264 x265 μ) fun x266 μ267 =>
        bd (sls xs Ls (w32 (v3 + 1))) fun x268 =>
        bd (sls xs Ls (w32 (v3 + 2))) fun x269 =>
        bd (sls xs Ls (w32 (v3 + 3))) fun x270 =>
        bd (sls xs Ls (w32 (v3 + 4))) fun x271 =>
        bd (isk 12 μ267 v2) fun _ =>
        bd2 (M_lane v2 x268 x269 x270 x271 μ267) fun x272 μ273 =>
        if x266 = x272 then
          law_L18 xs Ls n v0 v1 v2 (w32 (v3 + 6)) μ273
        else
          none
      else
        if (and32 x1 63) = 34 then
        bd (sls xs Ls (w32 (v3 + 1))) fun x274 =>
        bd (isk 11 μ v1) fun _ =>
        bd2 (T_box v1 x274 μ) fun x275 μ276 =>
        bd (sls xs Ls (w32 (v3 + 1))) fun x277 =>
        bd (isk 12 μ276 v2) fun _ =>
        bd2 (M_box v2 x277 μ276) fun x278 μ279 =>
        if x275 = x278 then
          law_L18 xs Ls n v0 v1 v2 (w32 (v3 + 6)) μ279
        else
          none
      else
        if (and32 x1 63) = 35 then
        bd (sls xs Ls (w32 (v3 + 1))) fun x280 =>
        bd (isk 11 μ v1) fun _ =>
        bd2 (T_cutOff v1 x280 μ) fun x281 μ282 =>
        bd (sls xs Ls (w32 (v3 + 1))) fun x283 =>
        bd (isk 12 μ282 v2) fun _ =>
        bd2 (M_cutOff v2 x283 μ282) fun x284 μ285 =>
        if x281 = x284 then
          law_L18 xs Ls n v0 v1 v2 (w32 (v3 + 6)) μ285
        else
          none
      else
        if (and32 x1 63) = 36 then
        bd (sls xs Ls (w32 (v3 + 1))) fun x286 =>
        bd (sls xs Ls (w32 (v3 + 2))) fun x287 =>
        bd (isk 11 μ v1) fun _ =>
        bd2 (T_ledger v1 x286 x287 μ) fun x288 μ289 =>
        bd (sls xs Ls (w32 (v3 + 1))) fun x290 =>
        bd (sls xs Ls (w32 (v3 + 2))) fun x291 =>
        bd (isk 12 μ289 v2) fun _ =>
        bd2 (M_ledger v2 x290 x291 μ289) fun x292 μ293 =>
        if x288 = x292 then
          law_L18 xs Ls n v0 v1 v2 (w32 (v3 + 6)) μ293
        else
          none
      else
        if (and32 x1 63) = 37 then
        bd (sls xs Ls (w32 (v3 + 1))) fun x294 =>
        bd (sls xs Ls (w32 (v3 + 2))) fun x295 =>
        bd (sls xs Ls (w32 (v3 + 3))) fun x296 =>
        bd (sls xs Ls (w32 (v3 + 4))) fun x297 =>
        bd (sls xs Ls (w32 (v3 + 5))) fun x298 =>
        bd (isk 11 μ v1) fun _ =>
        bd2 (T_meet v1 x294 x295 x296 x297 x298 μ) fun x299 μ300 =>
        bd (sls xs Ls (w32 (v3 + 1))) fun x301 =>
        bd (sls xs Ls (w32 (v3 + 2))) fun x302 =>
        bd (sls xs Ls (w32 (v3 + 3))) fun x303 =>
        bd (sls xs Ls (w32 (v3 + 4))) fun x304 =>
        bd (sls xs Ls (w32 (v3 + 5))) fun x305 =>
        bd (isk 12 μ300 v2) fun _ =>
        bd2 (M_meet v2 x301 x302 x303 x304 x305 μ300) fun x306 μ307 =>
        if x299 = x306 then
          law_L18 xs Ls n v0 v1 v2 (w32 (v3 + 6)) μ307
        else
          none
      else
        if (and32 x1 63) = 38 then
        bd (sls xs Ls (w32 (v3 + 1))) fun x308 =>
        bd (sls xs Ls (w32 (v3 + 2))) fun x309 =>
        bd (sls xs Ls (w32 (v3 + 3))) fun x310 =>
        bd (isk 11 μ v1) fun _ =>
        bd2 (T_fair v1 x308 x309 x310 μ) fun x311 μ312 =>
        bd (sls xs Ls (w32 (v3 + 1))) fun x313 =>
        bd (sls xs Ls (w32 (v3 + 2))) fun x314 =>
        bd (sls xs Ls (w32 (v3 + 3))) fun x315 =>
        bd (isk 12 μ312 v2) fun _ =>
        bd2 (M_fair v2 x313 x314 x315 μ312) fun x316 μ317 =>
        if x311 = x316 then
          law_L18 xs Ls n v0 v1 v2 (w32 (v3 + 6)) μ317
        else
          none
      else
        if (and32 x1 63) = 39 then
        bd (sls xs Ls (w32 (v3 + 1))) fun x318 =>
        bd (sls xs Ls (w32 (v3 + 2))) fun x319 =>
        bd (sls xs Ls (w32 (v3 + 3))) fun x320 =>
        bd (isk 11 μ v1) fun _ =>
        bd2 (T_numbers v1 x318 x319 x320 μ) fun x321 μ322 =>
        bd (sls xs Ls (w32 (v3 + 1))) fun x323 =>
        bd (sls xs Ls (w32 (v3 + 2))) fun x324 =>
        bd (sls xs Ls (w32 (v3 + 3))) fun x325 =>
        bd (isk 12 μ322 v2) fun _ =>
        bd2 (M_numbers v2 x323 x324 x325 μ322) fun x326 μ327 =>
        if x321 = x326 then
          law_L18 xs Ls n v0 v1 v2 (w32 (v3 + 6)) μ327
        else
          none
      else
        if (and32 x1 63) = 40 then
        bd (sls xs Ls (w32 (v3 + 1))) fun x328 =>
        bd (sls xs Ls (w32 (v3 + 2))) fun x329 =>
        bd (sls xs Ls (w32 (v3 + 3))) fun x330 =>
        bd (sls xs Ls (w32 (v3 + 4))) fun x331 =>
        bd (isk 11 μ v1) fun _ =>
        bd2 (T_write v1 x328 x329 (or64 (shl64 x330 32) (and64 x331 4294967295)) μ) fun x332 μ333 =>
        bd (sls xs Ls (w32 (v3 + 1))) fun x334 =>
        bd (sls xs Ls (w32 (v3 + 2))) fun x335 =>
        bd (sls xs Ls (w32 (v3 + 3))) fun x336 =>
        bd (sls xs Ls (w32 (v3 + 4))) fun x337 =>
        bd (isk 12 μ333 v2) fun _ =>
        bd2 (M_write v2 x334 x335 (or64 (shl64 x336 32) (and64 x337 4294967295)) μ333) fun x338 μ339 =>
        if (cmp64 x332 x338) = 0 then
          law_L18 xs Ls n v0 v1 v2 (w32 (v3 + 6)) μ339
        else
          none
      else
        if (and32 x1 63) = 41 then
        bd (sls xs Ls (w32 (v3 + 1))) fun x340 =>
        bd (sls xs Ls (w32 (v3 + 2))) fun x341 =>
        bd (isk 11 μ v1) fun _ =>
        bd2 (T_copy v1 x340 x341 μ) fun x342 μ343 =>
        bd (sls xs Ls (w32 (v3 + 1))) fun x344 =>
        bd (sls xs Ls (w32 (v3 + 2))) fun x345 =>
        bd (isk 12 μ343 v2) fun _ =>
        bd2 (M_copy v2 x344 x345 μ343) fun x346 μ347 =>
        if x342 = x346 then
          law_L18 xs Ls n v0 v1 v2 (w32 (v3 + 6)) μ347
        else
          none
      else
        if (and32 x1 63) = 42 then
        bd (sls xs Ls (w32 (v3 + 1))) fun x348 =>
        bd (isk 11 μ v1) fun _ =>
        bd2 (T_image v1 x348 μ) fun x349 μ350 =>
        bd (sls xs Ls (w32 (v3 + 1))) fun x351 =>
        bd (isk 12 μ350 v2) fun _ =>
        bd2 (M_image v2 x351 μ350) fun x352 μ353 =>
        if x349 = x352 then
          law_L18 xs Ls n v0 v1 v2 (w32 (v3 + 6)) μ353
        else
          none
      else
        if (and32 x1 63) = 43 then
        bd (sls xs Ls (w32 (v3 + 1))) fun x354 =>
        bd (isk 11 μ v1) fun _ =>
        bd2 (T_restore v1 x354 μ) fun x355 μ356 =>
        bd (sls xs Ls (w32 (v3 + 1))) fun x357 =>
        bd (isk 12 μ356 v2) fun _ =>
        bd2 (M_restore v2 x357 μ356) fun x358 μ359 =>
        if x355 = x358 then
          law_L18 xs Ls n v0 v1 v2 (w32 (v3 + 6)) μ359
        else
          none
      else
        if (and32 x1 63) = 44 then
        bd (sls xs Ls (w32 (v3 + 1))) fun x360 =>
        bd (isk 11 μ v1) fun _ =>
        bd2 (T_count v1 x360 μ) fun x361 μ362 =>
        bd (sls xs Ls (w32 (v3 + 1))) fun x363 =>
        bd (isk 12 μ362 v2) fun _ =>
        bd2 (M_count v2 x363 μ362) fun x364 μ365 =>
        if x361 = x364 then
          law_L18 xs Ls n v0 v1 v2 (w32 (v3 + 6)) μ365
        else
          none
      else
        law_L18 xs Ls n v0 v1 v2 (w32 (v3 + 6)) μ
def f_law (xs : Nat → Int32) (Ls : Nat) (μ : Mem) : Option (Int × Mem) :=
  bd2 (T_init (nlen μ) (newc 11 16 μ)) fun _ μ2 =>
  bd2 (M_init (nlen μ2) (newc 12 52 μ2)) fun _ μ4 =>
  law_L18 xs Ls 600 (-100) (nlen μ) (nlen μ2) 0 μ4
set_option maxRecDepth 100000 in
set_option maxHeartbeats 40000000 in
theorem L_law_L18 {E : EX} {X : CX} {res : Int} {μe : Mem} {xs : Nat → Int32} {Ls : Nat} (hX : Good E X cL_law 4 "TollsBackLaw") (hZ : LawEnd E X) (hRm : cR X = room_1) (hsc : Scr E X xs Ls) : ∀ (n : Nat) (v0 v1 v2 v3 : Int) (μ : Mem) (c0 s0 : Nat) (hcs : c0 + n * 37 ≤ 22400 ∧ s0 + n * 1768 ≤ 1126500) (hv0 : v0 = -100) (q_v3 : R32 v3) (h : law_L18 xs Ls n v0 v1 v2 v3 μ = some (res, μe)), At E X cL_law 4 "TollsBackLaw" (c0, s0) 18 [(0, 2, v0), (1, 2, v1), (2, 2, v2), (3, 0, v3)] [] μ := by
  intro n
  induction n with
  | zero =>
    intro v0 v1 v2 v3 μ c0 s0 hcs hv0 q_v3 h
    have h : (none : Option (Int × Mem)) = some (res, μe) := h
    cases h
  | succ n ih =>
    intro v0 v1 v2 v3 μ c0 s0 hcs hv0 q_v3 h
    rw [law_L18.eq_2] at h
    subst hv0
    refine r_iloadn (pc := 18) (cs := (c0, s0)) hX 3 rfl (dk D_L_law_0 10 rfl) ?_
    refine r_aloadn (pc := 19) (cs := (c0, s0)) hX 0 rfl (dk D_L_law_0 11 rfl) ?_
    refine r_slen (pc := 20) (cs := (c0, s0)) hX hsc (dk D_L_law_0 12 rfl) ?_
    refine r_bipush (pc := 21) (cs := (c0, s0)) hX rfl (dk D_L_law_0 13 rfl) ?_
    refine r_isub (pc := 23) (cs := (c0, s0)) hX (dk D_L_law_0 14 rfl) ?_
    refine r_icmp_gt (pc := 24) (cs := (c0, s0)) hX q_v3 (R32_w _) 1766 rfl (dk D_L_law_0 15 rfl) (fun hc => ?_) (fun hc => ?_)
    · rw [if_pos hc] at h
      refine r_iconst (pc := 1766) (cs := (c0, s0)) hX (dk D_L_law_31 32 rfl) ?_
      exact r_lawret (pc := 1767) (cs := (c0, s0)) hX hZ ⟨by (try dsimp only); omega, by (try dsimp only); omega⟩ (dk D_L_law_31 33 rfl)
    · rw [if_neg hc] at h
      refine r_aloadn (pc := 27) (cs := (c0, s0)) hX 0 rfl (dk D_L_law_0 16 rfl) ?_
      refine r_iloadn (pc := 28) (cs := (c0, s0)) hX 3 rfl (dk D_L_law_0 17 rfl) ?_
      obtain ⟨x1, hx1, h⟩ := bd_some h
      refine r_sls (pc := 29) (cs := (c0, s0)) hX hsc q_v3 hx1 (dk D_L_law_0 18 rfl) (fun qx1 => ?_)
      refine r_bipush (pc := 30) (cs := (c0, s0)) hX rfl (dk D_L_law_0 19 rfl) ?_
      refine r_iand (pc := 32) (cs := (c0, s0)) hX (dk D_L_law_0 20 rfl) ?_
      by_cases hc0 : (and32 x1 63) = 0
      · rw [if_pos hc0] at h
        refine r_table (pc := 33) (cs := (c0, s0)) hX (by rw [hc0]; exact R32_lit rfl) 228 (dk D_L_law_0 21 rfl) (by omega) (by omega) (by rw [hc0]; rfl) rfl ?_
        refine r_aloadn (pc := 228) (cs := (c0, s0)) hX 1 rfl (dk D_L_law_0 22 rfl) ?_
        refine r_aloadn (pc := 229) (cs := (c0, s0)) hX 0 rfl (dk D_L_law_0 23 rfl) ?_
        refine r_iloadn (pc := 230) (cs := (c0, s0)) hX 3 rfl (dk D_L_law_0 24 rfl) ?_
        refine r_iconst (pc := 231) (cs := (c0, s0)) hX (dk D_L_law_0 25 rfl) ?_
        refine r_iadd (pc := 232) (cs := (c0, s0)) hX (dk D_L_law_0 26 rfl) ?_
        obtain ⟨x2, hx2, h⟩ := bd_some h
        refine r_sls (pc := 233) (cs := (c0, s0)) hX hsc (R32_w _) hx2 (dk D_L_law_0 27 rfl) (fun qx2 => ?_)
        refine r_aloadn (pc := 234) (cs := (c0, s0)) hX 0 rfl (dk D_L_law_0 28 rfl) ?_
        refine r_iloadn (pc := 235) (cs := (c0, s0)) hX 3 rfl (dk D_L_law_0 29 rfl) ?_
        refine r_iconst (pc := 236) (cs := (c0, s0)) hX (dk D_L_law_0 30 rfl) ?_
        refine r_iadd (pc := 237) (cs := (c0, s0)) hX (dk D_L_law_0 31 rfl) ?_
        obtain ⟨x3, hx3, h⟩ := bd_some h
        refine r_sls (pc := 238) (cs := (c0, s0)) hX hsc (R32_w _) hx3 (dk D_L_law_0 32 rfl) (fun qx3 => ?_)
        refine r_aloadn (pc := 239) (cs := (c0, s0)) hX 0 rfl (dk D_L_law_0 33 rfl) ?_
        refine r_iloadn (pc := 240) (cs := (c0, s0)) hX 3 rfl (dk D_L_law_0 34 rfl) ?_
        refine r_iconst (pc := 241) (cs := (c0, s0)) hX (dk D_L_law_0 35 rfl) ?_
        refine r_iadd (pc := 242) (cs := (c0, s0)) hX (dk D_L_law_0 36 rfl) ?_
        obtain ⟨x4, hx4, h⟩ := bd_some h
        refine r_sls (pc := 243) (cs := (c0, s0)) hX hsc (R32_w _) hx4 (dk D_L_law_0 37 rfl) (fun qx4 => ?_)
        refine r_aloadn (pc := 244) (cs := (c0, s0)) hX 0 rfl (dk D_L_law_0 38 rfl) ?_
        refine r_iloadn (pc := 245) (cs := (c0, s0)) hX 3 rfl (dk D_L_law_0 39 rfl) ?_
        refine r_iconst (pc := 246) (cs := (c0, s0)) hX (dk D_L_law_1 0 rfl) ?_
        refine r_iadd (pc := 247) (cs := (c0, s0)) hX (dk D_L_law_1 1 rfl) ?_
        obtain ⟨x5, hx5, h⟩ := bd_some h
        refine r_sls (pc := 248) (cs := (c0, s0)) hX hsc (R32_w _) hx5 (dk D_L_law_1 2 rfl) (fun qx5 => ?_)
        refine r_aloadn (pc := 249) (cs := (c0, s0)) hX 0 rfl (dk D_L_law_1 3 rfl) ?_
        refine r_iloadn (pc := 250) (cs := (c0, s0)) hX 3 rfl (dk D_L_law_1 4 rfl) ?_
        refine r_iconst (pc := 251) (cs := (c0, s0)) hX (dk D_L_law_1 5 rfl) ?_
        refine r_iadd (pc := 252) (cs := (c0, s0)) hX (dk D_L_law_1 6 rfl) ?_
        obtain ⟨x6, hx6, h⟩ := bd_some h
        refine r_sls (pc := 253) (cs := (c0, s0)) hX hsc (R32_w _) hx6 (dk D_L_law_1 7 rfl) (fun qx6 => ?_)
        obtain ⟨_, hi, h⟩ := bd_some h
        obtain ⟨x7, μ8, hx7, h⟩ := bd2_some h
        refine r_invV0 (As := [(0, x2), (0, x3), (0, x4), (0, x5), (0, x6)]) (pc := 254) (cs := (c0, s0)) hX ml_L_13 (L_T_feed qx2 qx3 qx4 qx5 qx6 hx7) (isk_u hi) (Rm_law hRm (by decide) ⟨by (try dsimp only); omega, by (try dsimp only); omega⟩) (by decide) rfl (Nat.le_of_ble_eq_true rfl) rfl (dk D_L_law_1 8 rfl) (fun qx7 => ?_)
        refine r_aloadn (pc := 257) (cs := (c0, s0)) hX 2 rfl (dk D_L_law_1 9 rfl) ?_
        refine r_aloadn (pc := 258) (cs := (c0, s0)) hX 0 rfl (dk D_L_law_1 10 rfl) ?_
        refine r_iloadn (pc := 259) (cs := (c0, s0)) hX 3 rfl (dk D_L_law_1 11 rfl) ?_
        refine r_iconst (pc := 260) (cs := (c0, s0)) hX (dk D_L_law_1 12 rfl) ?_
        refine r_iadd (pc := 261) (cs := (c0, s0)) hX (dk D_L_law_1 13 rfl) ?_
        obtain ⟨x9, hx9, h⟩ := bd_some h
        refine r_sls (pc := 262) (cs := (c0, s0)) hX hsc (R32_w _) hx9 (dk D_L_law_1 14 rfl) (fun qx9 => ?_)
        refine r_aloadn (pc := 263) (cs := (c0, s0)) hX 0 rfl (dk D_L_law_1 15 rfl) ?_
        refine r_iloadn (pc := 264) (cs := (c0, s0)) hX 3 rfl (dk D_L_law_1 16 rfl) ?_
        refine r_iconst (pc := 265) (cs := (c0, s0)) hX (dk D_L_law_1 17 rfl) ?_
        refine r_iadd (pc := 266) (cs := (c0, s0)) hX (dk D_L_law_1 18 rfl) ?_
        obtain ⟨x10, hx10, h⟩ := bd_some h
        refine r_sls (pc := 267) (cs := (c0, s0)) hX hsc (R32_w _) hx10 (dk D_L_law_1 19 rfl) (fun qx10 => ?_)
        refine r_aloadn (pc := 268) (cs := (c0, s0)) hX 0 rfl (dk D_L_law_1 20 rfl) ?_
        refine r_iloadn (pc := 269) (cs := (c0, s0)) hX 3 rfl (dk D_L_law_1 21 rfl) ?_
        refine r_iconst (pc := 270) (cs := (c0, s0)) hX (dk D_L_law_1 22 rfl) ?_
        refine r_iadd (pc := 271) (cs := (c0, s0)) hX (dk D_L_law_1 23 rfl) ?_
        obtain ⟨x11, hx11, h⟩ := bd_some h
        refine r_sls (pc := 272) (cs := (c0, s0)) hX hsc (R32_w _) hx11 (dk D_L_law_1 24 rfl) (fun qx11 => ?_)
        refine r_aloadn (pc := 273) (cs := (c0, s0)) hX 0 rfl (dk D_L_law_1 25 rfl) ?_
        refine r_iloadn (pc := 274) (cs := (c0, s0)) hX 3 rfl (dk D_L_law_1 26 rfl) ?_
        refine r_iconst (pc := 275) (cs := (c0, s0)) hX (dk D_L_law_1 27 rfl) ?_
        refine r_iadd (pc := 276) (cs := (c0, s0)) hX (dk D_L_law_1 28 rfl) ?_
        obtain ⟨x12, hx12, h⟩ := bd_some h
        refine r_sls (pc := 277) (cs := (c0, s0)) hX hsc (R32_w _) hx12 (dk D_L_law_1 29 rfl) (fun qx12 => ?_)
        refine r_aloadn (pc := 278) (cs := (c0, s0)) hX 0 rfl (dk D_L_law_1 30 rfl) ?_
        refine r_iloadn (pc := 279) (cs := (c0, s0)) hX 3 rfl (dk D_L_law_1 31 rfl) ?_
        refine r_iconst (pc := 280) (cs := (c0, s0)) hX (dk D_L_law_1 32 rfl) ?_
        refine r_iadd (pc := 281) (cs := (c0, s0)) hX (dk D_L_law_1 33 rfl) ?_
        obtain ⟨x13, hx13, h⟩ := bd_some h
        refine r_sls (pc := 282) (cs := (c0, s0)) hX hsc (R32_w _) hx13 (dk D_L_law_1 34 rfl) (fun qx13 => ?_)
        obtain ⟨_, hi, h⟩ := bd_some h
        obtain ⟨x14, μ15, hx14, h⟩ := bd2_some h
        refine r_invV0 (As := [(0, x9), (0, x10), (0, x11), (0, x12), (0, x13)]) (pc := 283) (cs := (c0, s0)) hX ml_L_17 (L_M_feed qx9 qx10 qx11 qx12 qx13 hx14) (isk_u hi) (Rm_law hRm (by decide) ⟨by (try dsimp only); omega, by (try dsimp only); omega⟩) (by decide) rfl (Nat.le_of_ble_eq_true rfl) rfl (dk D_L_law_1 35 rfl) (fun qx14 => ?_)
        refine r_icmp_eq (pc := 286) (cs := (c0, s0)) hX qx7 qx14 1760 rfl (dk D_L_law_1 36 rfl) (fun hc => ?_) (fun hc => ?_)
        · rw [if_pos hc] at h
          refine r_iinc (lv' := [(3, 0, (w32 (v3 + 6))), (0, 2, -100), (1, 2, v1), (2, 2, v2)]) (pc := 1760) (cs := (c0, s0)) hX 3 rfl (by decide) rfl (dk D_L_law_31 30 rfl) ?_
          refine r_goto (pc := 1763) (cs := (c0, s0)) hX 18 rfl (dk D_L_law_31 31 rfl) ?_
          refine r_sub (lv' := [(0, 2, -100), (1, 2, v1), (2, 2, v2), (3, 0, (w32 (v3 + 6)))]) [1, 2, 3, 0] rfl ?_
          exact ih (-100) v1 v2 (w32 (v3 + 6)) μ15 c0 s0 (by omega) rfl (R32_w _) h
        · rw [if_neg hc] at h
          refine r_iconst (pc := 289) (cs := (c0, s0)) hX (dk D_L_law_1 37 rfl) ?_
          cases h
      · rw [if_neg hc0] at h
        by_cases hc1 : (and32 x1 63) = 1
        · rw [if_pos hc1] at h
          refine r_table (pc := 33) (cs := (c0, s0)) hX (by rw [hc1]; exact R32_lit rfl) 291 (dk D_L_law_0 21 rfl) (by omega) (by omega) (by rw [hc1]; rfl) rfl ?_
          refine r_aloadn (pc := 291) (cs := (c0, s0)) hX 1 rfl (dk D_L_law_1 39 rfl) ?_
          refine r_aloadn (pc := 292) (cs := (c0, s0)) hX 0 rfl (dk D_L_law_2 0 rfl) ?_
          refine r_iloadn (pc := 293) (cs := (c0, s0)) hX 3 rfl (dk D_L_law_2 1 rfl) ?_
          refine r_iconst (pc := 294) (cs := (c0, s0)) hX (dk D_L_law_2 2 rfl) ?_
          refine r_iadd (pc := 295) (cs := (c0, s0)) hX (dk D_L_law_2 3 rfl) ?_
          obtain ⟨x16, hx16, h⟩ := bd_some h
          refine r_sls (pc := 296) (cs := (c0, s0)) hX hsc (R32_w _) hx16 (dk D_L_law_2 4 rfl) (fun qx16 => ?_)
          obtain ⟨_, hi, h⟩ := bd_some h
          obtain ⟨x17, μ18, hx17, h⟩ := bd2_some h
          refine r_invV0 (As := [(0, x16)]) (pc := 297) (cs := (c0, s0)) hX ml_L_18 (L_T_kingdom qx16 hx17) (isk_u hi) (Rm_law hRm (by decide) ⟨by (try dsimp only); omega, by (try dsimp only); omega⟩) (by decide) rfl (Nat.le_of_ble_eq_true rfl) rfl (dk D_L_law_2 5 rfl) (fun qx17 => ?_)
          refine r_aloadn (pc := 300) (cs := (c0, s0)) hX 2 rfl (dk D_L_law_2 6 rfl) ?_
          refine r_aloadn (pc := 301) (cs := (c0, s0)) hX 0 rfl (dk D_L_law_2 7 rfl) ?_
          refine r_iloadn (pc := 302) (cs := (c0, s0)) hX 3 rfl (dk D_L_law_2 8 rfl) ?_
          refine r_iconst (pc := 303) (cs := (c0, s0)) hX (dk D_L_law_2 9 rfl) ?_
          refine r_iadd (pc := 304) (cs := (c0, s0)) hX (dk D_L_law_2 10 rfl) ?_
          obtain ⟨x19, hx19, h⟩ := bd_some h
          refine r_sls (pc := 305) (cs := (c0, s0)) hX hsc (R32_w _) hx19 (dk D_L_law_2 11 rfl) (fun qx19 => ?_)
          obtain ⟨_, hi, h⟩ := bd_some h
          obtain ⟨x20, μ21, hx20, h⟩ := bd2_some h
          refine r_invV0 (As := [(0, x19)]) (pc := 306) (cs := (c0, s0)) hX ml_L_22 (L_M_kingdom qx19 hx20) (isk_u hi) (Rm_law hRm (by decide) ⟨by (try dsimp only); omega, by (try dsimp only); omega⟩) (by decide) rfl (Nat.le_of_ble_eq_true rfl) rfl (dk D_L_law_2 12 rfl) (fun qx20 => ?_)
          refine r_icmp_eq (pc := 309) (cs := (c0, s0)) hX qx17 qx20 1760 rfl (dk D_L_law_2 13 rfl) (fun hc => ?_) (fun hc => ?_)
          · rw [if_pos hc] at h
            refine r_iinc (lv' := [(3, 0, (w32 (v3 + 6))), (0, 2, -100), (1, 2, v1), (2, 2, v2)]) (pc := 1760) (cs := (c0, s0)) hX 3 rfl (by decide) rfl (dk D_L_law_31 30 rfl) ?_
            refine r_goto (pc := 1763) (cs := (c0, s0)) hX 18 rfl (dk D_L_law_31 31 rfl) ?_
            refine r_sub (lv' := [(0, 2, -100), (1, 2, v1), (2, 2, v2), (3, 0, (w32 (v3 + 6)))]) [1, 2, 3, 0] rfl ?_
            exact ih (-100) v1 v2 (w32 (v3 + 6)) μ21 c0 s0 (by omega) rfl (R32_w _) h
          · rw [if_neg hc] at h
            refine r_iconst (pc := 312) (cs := (c0, s0)) hX (dk D_L_law_2 14 rfl) ?_
            cases h
        · rw [if_neg hc1] at h
          by_cases hc2 : (and32 x1 63) = 2
          · rw [if_pos hc2] at h
            refine r_table (pc := 33) (cs := (c0, s0)) hX (by rw [hc2]; exact R32_lit rfl) 314 (dk D_L_law_0 21 rfl) (by omega) (by omega) (by rw [hc2]; rfl) rfl ?_
            refine r_aloadn (pc := 314) (cs := (c0, s0)) hX 1 rfl (dk D_L_law_2 16 rfl) ?_
            refine r_aloadn (pc := 315) (cs := (c0, s0)) hX 0 rfl (dk D_L_law_2 17 rfl) ?_
            refine r_iloadn (pc := 316) (cs := (c0, s0)) hX 3 rfl (dk D_L_law_2 18 rfl) ?_
            refine r_iconst (pc := 317) (cs := (c0, s0)) hX (dk D_L_law_2 19 rfl) ?_
            refine r_iadd (pc := 318) (cs := (c0, s0)) hX (dk D_L_law_2 20 rfl) ?_
            obtain ⟨x22, hx22, h⟩ := bd_some h
            refine r_sls (pc := 319) (cs := (c0, s0)) hX hsc (R32_w _) hx22 (dk D_L_law_2 21 rfl) (fun qx22 => ?_)
            obtain ⟨_, hi, h⟩ := bd_some h
            obtain ⟨x23, μ24, hx23, h⟩ := bd2_some h
            refine r_invV0 (As := [(0, x22)]) (pc := 320) (cs := (c0, s0)) hX ml_L_23 (L_T_fault qx22 hx23) (isk_u hi) (Rm_law hRm (by decide) ⟨by (try dsimp only); omega, by (try dsimp only); omega⟩) (by decide) rfl (Nat.le_of_ble_eq_true rfl) rfl (dk D_L_law_2 22 rfl) (fun qx23 => ?_)
            refine r_aloadn (pc := 323) (cs := (c0, s0)) hX 2 rfl (dk D_L_law_2 23 rfl) ?_
            refine r_aloadn (pc := 324) (cs := (c0, s0)) hX 0 rfl (dk D_L_law_2 24 rfl) ?_
            refine r_iloadn (pc := 325) (cs := (c0, s0)) hX 3 rfl (dk D_L_law_2 25 rfl) ?_
            refine r_iconst (pc := 326) (cs := (c0, s0)) hX (dk D_L_law_2 26 rfl) ?_
            refine r_iadd (pc := 327) (cs := (c0, s0)) hX (dk D_L_law_2 27 rfl) ?_
            obtain ⟨x25, hx25, h⟩ := bd_some h
            refine r_sls (pc := 328) (cs := (c0, s0)) hX hsc (R32_w _) hx25 (dk D_L_law_2 28 rfl) (fun qx25 => ?_)
            obtain ⟨_, hi, h⟩ := bd_some h
            obtain ⟨x26, μ27, hx26, h⟩ := bd2_some h
            refine r_invV0 (As := [(0, x25)]) (pc := 329) (cs := (c0, s0)) hX ml_L_26 (L_M_fault qx25 hx26) (isk_u hi) (Rm_law hRm (by decide) ⟨by (try dsimp only); omega, by (try dsimp only); omega⟩) (by decide) rfl (Nat.le_of_ble_eq_true rfl) rfl (dk D_L_law_2 29 rfl) (fun qx26 => ?_)
            refine r_icmp_eq (pc := 332) (cs := (c0, s0)) hX qx23 qx26 1760 rfl (dk D_L_law_2 30 rfl) (fun hc => ?_) (fun hc => ?_)
            · rw [if_pos hc] at h
              refine r_iinc (lv' := [(3, 0, (w32 (v3 + 6))), (0, 2, -100), (1, 2, v1), (2, 2, v2)]) (pc := 1760) (cs := (c0, s0)) hX 3 rfl (by decide) rfl (dk D_L_law_31 30 rfl) ?_
              refine r_goto (pc := 1763) (cs := (c0, s0)) hX 18 rfl (dk D_L_law_31 31 rfl) ?_
              refine r_sub (lv' := [(0, 2, -100), (1, 2, v1), (2, 2, v2), (3, 0, (w32 (v3 + 6)))]) [1, 2, 3, 0] rfl ?_
              exact ih (-100) v1 v2 (w32 (v3 + 6)) μ27 c0 s0 (by omega) rfl (R32_w _) h
            · rw [if_neg hc] at h
              refine r_iconst (pc := 335) (cs := (c0, s0)) hX (dk D_L_law_2 31 rfl) ?_
              cases h
          · rw [if_neg hc2] at h
            by_cases hc3 : (and32 x1 63) = 3
            · rw [if_pos hc3] at h
              refine r_table (pc := 33) (cs := (c0, s0)) hX (by rw [hc3]; exact R32_lit rfl) 337 (dk D_L_law_0 21 rfl) (by omega) (by omega) (by rw [hc3]; rfl) rfl ?_
              refine r_aloadn (pc := 337) (cs := (c0, s0)) hX 1 rfl (dk D_L_law_2 33 rfl) ?_
              refine r_aloadn (pc := 338) (cs := (c0, s0)) hX 0 rfl (dk D_L_law_2 34 rfl) ?_
              refine r_iloadn (pc := 339) (cs := (c0, s0)) hX 3 rfl (dk D_L_law_2 35 rfl) ?_
              refine r_iconst (pc := 340) (cs := (c0, s0)) hX (dk D_L_law_2 36 rfl) ?_
              refine r_iadd (pc := 341) (cs := (c0, s0)) hX (dk D_L_law_2 37 rfl) ?_
              obtain ⟨x28, hx28, h⟩ := bd_some h
              refine r_sls (pc := 342) (cs := (c0, s0)) hX hsc (R32_w _) hx28 (dk D_L_law_2 38 rfl) (fun qx28 => ?_)
              refine r_aloadn (pc := 343) (cs := (c0, s0)) hX 0 rfl (dk D_L_law_2 39 rfl) ?_
              refine r_iloadn (pc := 344) (cs := (c0, s0)) hX 3 rfl (dk D_L_law_3 0 rfl) ?_
              refine r_iconst (pc := 345) (cs := (c0, s0)) hX (dk D_L_law_3 1 rfl) ?_
              refine r_iadd (pc := 346) (cs := (c0, s0)) hX (dk D_L_law_3 2 rfl) ?_
              obtain ⟨x29, hx29, h⟩ := bd_some h
              refine r_sls (pc := 347) (cs := (c0, s0)) hX hsc (R32_w _) hx29 (dk D_L_law_3 3 rfl) (fun qx29 => ?_)
              obtain ⟨_, hi, h⟩ := bd_some h
              obtain ⟨x30, μ31, hx30, h⟩ := bd2_some h
              refine r_invV0 (As := [(0, x28), (0, x29)]) (pc := 348) (cs := (c0, s0)) hX ml_L_27 (L_T_road qx28 qx29 hx30) (isk_u hi) (Rm_law hRm (by decide) ⟨by (try dsimp only); omega, by (try dsimp only); omega⟩) (by decide) rfl (Nat.le_of_ble_eq_true rfl) rfl (dk D_L_law_3 4 rfl) (fun qx30 => ?_)
              refine r_aloadn (pc := 351) (cs := (c0, s0)) hX 2 rfl (dk D_L_law_3 5 rfl) ?_
              refine r_aloadn (pc := 352) (cs := (c0, s0)) hX 0 rfl (dk D_L_law_3 6 rfl) ?_
              refine r_iloadn (pc := 353) (cs := (c0, s0)) hX 3 rfl (dk D_L_law_3 7 rfl) ?_
              refine r_iconst (pc := 354) (cs := (c0, s0)) hX (dk D_L_law_3 8 rfl) ?_
              refine r_iadd (pc := 355) (cs := (c0, s0)) hX (dk D_L_law_3 9 rfl) ?_
              obtain ⟨x32, hx32, h⟩ := bd_some h
              refine r_sls (pc := 356) (cs := (c0, s0)) hX hsc (R32_w _) hx32 (dk D_L_law_3 10 rfl) (fun qx32 => ?_)
              refine r_aloadn (pc := 357) (cs := (c0, s0)) hX 0 rfl (dk D_L_law_3 11 rfl) ?_
              refine r_iloadn (pc := 358) (cs := (c0, s0)) hX 3 rfl (dk D_L_law_3 12 rfl) ?_
              refine r_iconst (pc := 359) (cs := (c0, s0)) hX (dk D_L_law_3 13 rfl) ?_
              refine r_iadd (pc := 360) (cs := (c0, s0)) hX (dk D_L_law_3 14 rfl) ?_
              obtain ⟨x33, hx33, h⟩ := bd_some h
              refine r_sls (pc := 361) (cs := (c0, s0)) hX hsc (R32_w _) hx33 (dk D_L_law_3 15 rfl) (fun qx33 => ?_)
              obtain ⟨_, hi, h⟩ := bd_some h
              obtain ⟨x34, μ35, hx34, h⟩ := bd2_some h
              refine r_invV0 (As := [(0, x32), (0, x33)]) (pc := 362) (cs := (c0, s0)) hX ml_L_31 (L_M_road qx32 qx33 hx34) (isk_u hi) (Rm_law hRm (by decide) ⟨by (try dsimp only); omega, by (try dsimp only); omega⟩) (by decide) rfl (Nat.le_of_ble_eq_true rfl) rfl (dk D_L_law_3 16 rfl) (fun qx34 => ?_)
              refine r_icmp_eq (pc := 365) (cs := (c0, s0)) hX qx30 qx34 1760 rfl (dk D_L_law_3 17 rfl) (fun hc => ?_) (fun hc => ?_)
              · rw [if_pos hc] at h
                refine r_iinc (lv' := [(3, 0, (w32 (v3 + 6))), (0, 2, -100), (1, 2, v1), (2, 2, v2)]) (pc := 1760) (cs := (c0, s0)) hX 3 rfl (by decide) rfl (dk D_L_law_31 30 rfl) ?_
                refine r_goto (pc := 1763) (cs := (c0, s0)) hX 18 rfl (dk D_L_law_31 31 rfl) ?_
                refine r_sub (lv' := [(0, 2, -100), (1, 2, v1), (2, 2, v2), (3, 0, (w32 (v3 + 6)))]) [1, 2, 3, 0] rfl ?_
                exact ih (-100) v1 v2 (w32 (v3 + 6)) μ35 c0 s0 (by omega) rfl (R32_w _) h
              · rw [if_neg hc] at h
                refine r_iconst (pc := 368) (cs := (c0, s0)) hX (dk D_L_law_3 18 rfl) ?_
                cases h
            · rw [if_neg hc3] at h
              by_cases hc4 : (and32 x1 63) = 4
              · rw [if_pos hc4] at h
                refine r_table (pc := 33) (cs := (c0, s0)) hX (by rw [hc4]; exact R32_lit rfl) 370 (dk D_L_law_0 21 rfl) (by omega) (by omega) (by rw [hc4]; rfl) rfl ?_
                refine r_aloadn (pc := 370) (cs := (c0, s0)) hX 1 rfl (dk D_L_law_3 20 rfl) ?_
                refine r_aloadn (pc := 371) (cs := (c0, s0)) hX 0 rfl (dk D_L_law_3 21 rfl) ?_
                refine r_iloadn (pc := 372) (cs := (c0, s0)) hX 3 rfl (dk D_L_law_3 22 rfl) ?_
                refine r_iconst (pc := 373) (cs := (c0, s0)) hX (dk D_L_law_3 23 rfl) ?_
                refine r_iadd (pc := 374) (cs := (c0, s0)) hX (dk D_L_law_3 24 rfl) ?_
                obtain ⟨x36, hx36, h⟩ := bd_some h
                refine r_sls (pc := 375) (cs := (c0, s0)) hX hsc (R32_w _) hx36 (dk D_L_law_3 25 rfl) (fun qx36 => ?_)
                obtain ⟨_, hi, h⟩ := bd_some h
                obtain ⟨x37, μ38, hx37, h⟩ := bd2_some h
                refine r_invV0 (As := [(0, x36)]) (pc := 376) (cs := (c0, s0)) hX ml_L_32 (L_T_from qx36 hx37) (isk_u hi) (Rm_law hRm (by decide) ⟨by (try dsimp only); omega, by (try dsimp only); omega⟩) (by decide) rfl (Nat.le_of_ble_eq_true rfl) rfl (dk D_L_law_3 26 rfl) (fun qx37 => ?_)
                refine r_aloadn (pc := 379) (cs := (c0, s0)) hX 2 rfl (dk D_L_law_3 27 rfl) ?_
                refine r_aloadn (pc := 380) (cs := (c0, s0)) hX 0 rfl (dk D_L_law_3 28 rfl) ?_
                refine r_iloadn (pc := 381) (cs := (c0, s0)) hX 3 rfl (dk D_L_law_3 29 rfl) ?_
                refine r_iconst (pc := 382) (cs := (c0, s0)) hX (dk D_L_law_3 30 rfl) ?_
                refine r_iadd (pc := 383) (cs := (c0, s0)) hX (dk D_L_law_3 31 rfl) ?_
                obtain ⟨x39, hx39, h⟩ := bd_some h
                refine r_sls (pc := 384) (cs := (c0, s0)) hX hsc (R32_w _) hx39 (dk D_L_law_3 32 rfl) (fun qx39 => ?_)
                obtain ⟨_, hi, h⟩ := bd_some h
                obtain ⟨x40, μ41, hx40, h⟩ := bd2_some h
                refine r_invV0 (As := [(0, x39)]) (pc := 385) (cs := (c0, s0)) hX ml_L_35 (L_M_from qx39 hx40) (isk_u hi) (Rm_law hRm (by decide) ⟨by (try dsimp only); omega, by (try dsimp only); omega⟩) (by decide) rfl (Nat.le_of_ble_eq_true rfl) rfl (dk D_L_law_3 33 rfl) (fun qx40 => ?_)
                refine r_icmp_eq (pc := 388) (cs := (c0, s0)) hX qx37 qx40 1760 rfl (dk D_L_law_3 34 rfl) (fun hc => ?_) (fun hc => ?_)
                · rw [if_pos hc] at h
                  refine r_iinc (lv' := [(3, 0, (w32 (v3 + 6))), (0, 2, -100), (1, 2, v1), (2, 2, v2)]) (pc := 1760) (cs := (c0, s0)) hX 3 rfl (by decide) rfl (dk D_L_law_31 30 rfl) ?_
                  refine r_goto (pc := 1763) (cs := (c0, s0)) hX 18 rfl (dk D_L_law_31 31 rfl) ?_
                  refine r_sub (lv' := [(0, 2, -100), (1, 2, v1), (2, 2, v2), (3, 0, (w32 (v3 + 6)))]) [1, 2, 3, 0] rfl ?_
                  exact ih (-100) v1 v2 (w32 (v3 + 6)) μ41 c0 s0 (by omega) rfl (R32_w _) h
                · rw [if_neg hc] at h
                  refine r_iconst (pc := 391) (cs := (c0, s0)) hX (dk D_L_law_3 35 rfl) ?_
                  cases h
              · rw [if_neg hc4] at h
                by_cases hc5 : (and32 x1 63) = 5
                · rw [if_pos hc5] at h
                  refine r_table (pc := 33) (cs := (c0, s0)) hX (by rw [hc5]; exact R32_lit rfl) 393 (dk D_L_law_0 21 rfl) (by omega) (by omega) (by rw [hc5]; rfl) rfl ?_
                  refine r_aloadn (pc := 393) (cs := (c0, s0)) hX 1 rfl (dk D_L_law_3 37 rfl) ?_
                  refine r_aloadn (pc := 394) (cs := (c0, s0)) hX 0 rfl (dk D_L_law_3 38 rfl) ?_
                  refine r_iloadn (pc := 395) (cs := (c0, s0)) hX 3 rfl (dk D_L_law_3 39 rfl) ?_
                  refine r_iconst (pc := 396) (cs := (c0, s0)) hX (dk D_L_law_4 0 rfl) ?_
                  refine r_iadd (pc := 397) (cs := (c0, s0)) hX (dk D_L_law_4 1 rfl) ?_
                  obtain ⟨x42, hx42, h⟩ := bd_some h
                  refine r_sls (pc := 398) (cs := (c0, s0)) hX hsc (R32_w _) hx42 (dk D_L_law_4 2 rfl) (fun qx42 => ?_)
                  refine r_aloadn (pc := 399) (cs := (c0, s0)) hX 0 rfl (dk D_L_law_4 3 rfl) ?_
                  refine r_iloadn (pc := 400) (cs := (c0, s0)) hX 3 rfl (dk D_L_law_4 4 rfl) ?_
                  refine r_iconst (pc := 401) (cs := (c0, s0)) hX (dk D_L_law_4 5 rfl) ?_
                  refine r_iadd (pc := 402) (cs := (c0, s0)) hX (dk D_L_law_4 6 rfl) ?_
                  obtain ⟨x43, hx43, h⟩ := bd_some h
                  refine r_sls (pc := 403) (cs := (c0, s0)) hX hsc (R32_w _) hx43 (dk D_L_law_4 7 rfl) (fun qx43 => ?_)
                  obtain ⟨y44, hb, h⟩ := bd_some h
                  have hj : R32 y44 → At E X cL_law 4 "TollsBackLaw" (c0, s0) 412 [(0, 2, -100), (1, 2, v1), (2, 2, v2), (3, 0, v3)] [(0, y44), (0, x42), (2, v1)] μ := by
                    intro qy44
                    clear hb
                    obtain ⟨_, hi, h⟩ := bd_some h
                    obtain ⟨x45, μ46, hx45, h⟩ := bd2_some h
                    refine r_invV0 (As := [(0, x42), (0, y44)]) (pc := 412) (cs := (c0, s0)) hX ml_L_36 (L_T_close qx42 qy44 hx45) (isk_u hi) (Rm_law hRm (by decide) ⟨by (try dsimp only); omega, by (try dsimp only); omega⟩) (by decide) rfl (Nat.le_of_ble_eq_true rfl) rfl (dk D_L_law_4 12 rfl) (fun qx45 => ?_)
                    refine r_aloadn (pc := 415) (cs := (c0, s0)) hX 2 rfl (dk D_L_law_4 13 rfl) ?_
                    refine r_aloadn (pc := 416) (cs := (c0, s0)) hX 0 rfl (dk D_L_law_4 14 rfl) ?_
                    refine r_iloadn (pc := 417) (cs := (c0, s0)) hX 3 rfl (dk D_L_law_4 15 rfl) ?_
                    refine r_iconst (pc := 418) (cs := (c0, s0)) hX (dk D_L_law_4 16 rfl) ?_
                    refine r_iadd (pc := 419) (cs := (c0, s0)) hX (dk D_L_law_4 17 rfl) ?_
                    obtain ⟨x47, hx47, h⟩ := bd_some h
                    refine r_sls (pc := 420) (cs := (c0, s0)) hX hsc (R32_w _) hx47 (dk D_L_law_4 18 rfl) (fun qx47 => ?_)
                    refine r_aloadn (pc := 421) (cs := (c0, s0)) hX 0 rfl (dk D_L_law_4 19 rfl) ?_
                    refine r_iloadn (pc := 422) (cs := (c0, s0)) hX 3 rfl (dk D_L_law_4 20 rfl) ?_
                    refine r_iconst (pc := 423) (cs := (c0, s0)) hX (dk D_L_law_4 21 rfl) ?_
                    refine r_iadd (pc := 424) (cs := (c0, s0)) hX (dk D_L_law_4 22 rfl) ?_
                    obtain ⟨x48, hx48, h⟩ := bd_some h
                    refine r_sls (pc := 425) (cs := (c0, s0)) hX hsc (R32_w _) hx48 (dk D_L_law_4 23 rfl) (fun qx48 => ?_)
                    obtain ⟨y49, hb, h⟩ := bd_some h
                    have hj : R32 y49 → At E X cL_law 4 "TollsBackLaw" (c0, s0) 434 [(0, 2, -100), (1, 2, v1), (2, 2, v2), (3, 0, v3)] [(0, y49), (0, x47), (2, v2), (0, x45)] μ46 := by
                      intro qy49
                      clear hb
                      obtain ⟨_, hi, h⟩ := bd_some h
                      obtain ⟨x50, μ51, hx50, h⟩ := bd2_some h
                      refine r_invV0 (As := [(0, x47), (0, y49)]) (pc := 434) (cs := (c0, s0)) hX ml_L_40 (L_M_close qx47 qy49 hx50) (isk_u hi) (Rm_law hRm (by decide) ⟨by (try dsimp only); omega, by (try dsimp only); omega⟩) (by decide) rfl (Nat.le_of_ble_eq_true rfl) rfl (dk D_L_law_4 28 rfl) (fun qx50 => ?_)
                      refine r_icmp_eq (pc := 437) (cs := (c0, s0)) hX qx45 qx50 1760 rfl (dk D_L_law_4 29 rfl) (fun hc => ?_) (fun hc => ?_)
                      · rw [if_pos hc] at h
                        refine r_iinc (lv' := [(3, 0, (w32 (v3 + 6))), (0, 2, -100), (1, 2, v1), (2, 2, v2)]) (pc := 1760) (cs := (c0, s0)) hX 3 rfl (by decide) rfl (dk D_L_law_31 30 rfl) ?_
                        refine r_goto (pc := 1763) (cs := (c0, s0)) hX 18 rfl (dk D_L_law_31 31 rfl) ?_
                        refine r_sub (lv' := [(0, 2, -100), (1, 2, v1), (2, 2, v2), (3, 0, (w32 (v3 + 6)))]) [1, 2, 3, 0] rfl ?_
                        exact ih (-100) v1 v2 (w32 (v3 + 6)) μ51 c0 s0 (by omega) rfl (R32_w _) h
                      · rw [if_neg hc] at h
                        refine r_iconst (pc := 440) (cs := (c0, s0)) hX (dk D_L_law_4 30 rfl) ?_
                        cases h
                    clear h
                    have h := hb
                    clear hb
                    refine r_if_eq (pc := 426) (cs := (c0, s0)) hX qx48 433 rfl (dk D_L_law_4 24 rfl) (fun hc => ?_) (fun hc => ?_)
                    · rw [if_pos hc] at h
                      refine r_iconst (pc := 433) (cs := (c0, s0)) hX (dk D_L_law_4 27 rfl) ?_
                      replace h := Option.some.inj h
                      subst y49
                      exact hj (R32_lit rfl)
                    · rw [if_neg hc] at h
                      refine r_iconst (pc := 429) (cs := (c0, s0)) hX (dk D_L_law_4 25 rfl) ?_
                      refine r_goto (pc := 430) (cs := (c0, s0)) hX 434 rfl (dk D_L_law_4 26 rfl) ?_
                      replace h := Option.some.inj h
                      subst y49
                      exact hj (R32_lit rfl)
                  clear h
                  have h := hb
                  clear hb
                  refine r_if_eq (pc := 404) (cs := (c0, s0)) hX qx43 411 rfl (dk D_L_law_4 8 rfl) (fun hc => ?_) (fun hc => ?_)
                  · rw [if_pos hc] at h
                    refine r_iconst (pc := 411) (cs := (c0, s0)) hX (dk D_L_law_4 11 rfl) ?_
                    replace h := Option.some.inj h
                    subst y44
                    exact hj (R32_lit rfl)
                  · rw [if_neg hc] at h
                    refine r_iconst (pc := 407) (cs := (c0, s0)) hX (dk D_L_law_4 9 rfl) ?_
                    refine r_goto (pc := 408) (cs := (c0, s0)) hX 412 rfl (dk D_L_law_4 10 rfl) ?_
                    replace h := Option.some.inj h
                    subst y44
                    exact hj (R32_lit rfl)
                · rw [if_neg hc5] at h
                  by_cases hc6 : (and32 x1 63) = 6
                  · rw [if_pos hc6] at h
                    refine r_table (pc := 33) (cs := (c0, s0)) hX (by rw [hc6]; exact R32_lit rfl) 442 (dk D_L_law_0 21 rfl) (by omega) (by omega) (by rw [hc6]; rfl) rfl ?_
                    refine r_aloadn (pc := 442) (cs := (c0, s0)) hX 1 rfl (dk D_L_law_4 32 rfl) ?_
                    refine r_aloadn (pc := 443) (cs := (c0, s0)) hX 0 rfl (dk D_L_law_4 33 rfl) ?_
                    refine r_iloadn (pc := 444) (cs := (c0, s0)) hX 3 rfl (dk D_L_law_4 34 rfl) ?_
                    refine r_iconst (pc := 445) (cs := (c0, s0)) hX (dk D_L_law_4 35 rfl) ?_
                    refine r_iadd (pc := 446) (cs := (c0, s0)) hX (dk D_L_law_4 36 rfl) ?_
                    obtain ⟨x52, hx52, h⟩ := bd_some h
                    refine r_sls (pc := 447) (cs := (c0, s0)) hX hsc (R32_w _) hx52 (dk D_L_law_4 37 rfl) (fun qx52 => ?_)
                    refine r_aloadn (pc := 448) (cs := (c0, s0)) hX 0 rfl (dk D_L_law_4 38 rfl) ?_
                    refine r_iloadn (pc := 449) (cs := (c0, s0)) hX 3 rfl (dk D_L_law_4 39 rfl) ?_
                    refine r_iconst (pc := 450) (cs := (c0, s0)) hX (dk D_L_law_5 0 rfl) ?_
                    refine r_iadd (pc := 451) (cs := (c0, s0)) hX (dk D_L_law_5 1 rfl) ?_
                    obtain ⟨x53, hx53, h⟩ := bd_some h
                    refine r_sls (pc := 452) (cs := (c0, s0)) hX hsc (R32_w _) hx53 (dk D_L_law_5 2 rfl) (fun qx53 => ?_)
                    obtain ⟨_, hi, h⟩ := bd_some h
                    obtain ⟨x54, μ55, hx54, h⟩ := bd2_some h
                    refine r_invV0 (As := [(0, x52), (0, x53)]) (pc := 453) (cs := (c0, s0)) hX ml_L_41 (L_T_when qx52 qx53 hx54) (isk_u hi) (Rm_law hRm (by decide) ⟨by (try dsimp only); omega, by (try dsimp only); omega⟩) (by decide) rfl (Nat.le_of_ble_eq_true rfl) rfl (dk D_L_law_5 3 rfl) (fun qx54 => ?_)
                    refine r_aloadn (pc := 456) (cs := (c0, s0)) hX 2 rfl (dk D_L_law_5 4 rfl) ?_
                    refine r_aloadn (pc := 457) (cs := (c0, s0)) hX 0 rfl (dk D_L_law_5 5 rfl) ?_
                    refine r_iloadn (pc := 458) (cs := (c0, s0)) hX 3 rfl (dk D_L_law_5 6 rfl) ?_
                    refine r_iconst (pc := 459) (cs := (c0, s0)) hX (dk D_L_law_5 7 rfl) ?_
                    refine r_iadd (pc := 460) (cs := (c0, s0)) hX (dk D_L_law_5 8 rfl) ?_
                    obtain ⟨x56, hx56, h⟩ := bd_some h
                    refine r_sls (pc := 461) (cs := (c0, s0)) hX hsc (R32_w _) hx56 (dk D_L_law_5 9 rfl) (fun qx56 => ?_)
                    refine r_aloadn (pc := 462) (cs := (c0, s0)) hX 0 rfl (dk D_L_law_5 10 rfl) ?_
                    refine r_iloadn (pc := 463) (cs := (c0, s0)) hX 3 rfl (dk D_L_law_5 11 rfl) ?_
                    refine r_iconst (pc := 464) (cs := (c0, s0)) hX (dk D_L_law_5 12 rfl) ?_
                    refine r_iadd (pc := 465) (cs := (c0, s0)) hX (dk D_L_law_5 13 rfl) ?_
                    obtain ⟨x57, hx57, h⟩ := bd_some h
                    refine r_sls (pc := 466) (cs := (c0, s0)) hX hsc (R32_w _) hx57 (dk D_L_law_5 14 rfl) (fun qx57 => ?_)
                    obtain ⟨_, hi, h⟩ := bd_some h
                    obtain ⟨x58, μ59, hx58, h⟩ := bd2_some h
                    refine r_invV0 (As := [(0, x56), (0, x57)]) (pc := 467) (cs := (c0, s0)) hX ml_L_44 (L_M_when qx56 qx57 hx58) (isk_u hi) (Rm_law hRm (by decide) ⟨by (try dsimp only); omega, by (try dsimp only); omega⟩) (by decide) rfl (Nat.le_of_ble_eq_true rfl) rfl (dk D_L_law_5 15 rfl) (fun qx58 => ?_)
                    refine r_icmp_eq (pc := 470) (cs := (c0, s0)) hX qx54 qx58 1760 rfl (dk D_L_law_5 16 rfl) (fun hc => ?_) (fun hc => ?_)
                    · rw [if_pos hc] at h
                      refine r_iinc (lv' := [(3, 0, (w32 (v3 + 6))), (0, 2, -100), (1, 2, v1), (2, 2, v2)]) (pc := 1760) (cs := (c0, s0)) hX 3 rfl (by decide) rfl (dk D_L_law_31 30 rfl) ?_
                      refine r_goto (pc := 1763) (cs := (c0, s0)) hX 18 rfl (dk D_L_law_31 31 rfl) ?_
                      refine r_sub (lv' := [(0, 2, -100), (1, 2, v1), (2, 2, v2), (3, 0, (w32 (v3 + 6)))]) [1, 2, 3, 0] rfl ?_
                      exact ih (-100) v1 v2 (w32 (v3 + 6)) μ59 c0 s0 (by omega) rfl (R32_w _) h
                    · rw [if_neg hc] at h
                      refine r_iconst (pc := 473) (cs := (c0, s0)) hX (dk D_L_law_5 17 rfl) ?_
                      cases h
                  · rw [if_neg hc6] at h
                    by_cases hc7 : (and32 x1 63) = 7
                    · rw [if_pos hc7] at h
                      refine r_table (pc := 33) (cs := (c0, s0)) hX (by rw [hc7]; exact R32_lit rfl) 475 (dk D_L_law_0 21 rfl) (by omega) (by omega) (by rw [hc7]; rfl) rfl ?_
                      refine r_aloadn (pc := 475) (cs := (c0, s0)) hX 1 rfl (dk D_L_law_5 19 rfl) ?_
                      refine r_aloadn (pc := 476) (cs := (c0, s0)) hX 0 rfl (dk D_L_law_5 20 rfl) ?_
                      refine r_iloadn (pc := 477) (cs := (c0, s0)) hX 3 rfl (dk D_L_law_5 21 rfl) ?_
                      refine r_iconst (pc := 478) (cs := (c0, s0)) hX (dk D_L_law_5 22 rfl) ?_
                      refine r_iadd (pc := 479) (cs := (c0, s0)) hX (dk D_L_law_5 23 rfl) ?_
                      obtain ⟨x60, hx60, h⟩ := bd_some h
                      refine r_sls (pc := 480) (cs := (c0, s0)) hX hsc (R32_w _) hx60 (dk D_L_law_5 24 rfl) (fun qx60 => ?_)
                      obtain ⟨_, hi, h⟩ := bd_some h
                      obtain ⟨x61, μ62, hx61, h⟩ := bd2_some h
                      refine r_invV0 (As := [(0, x60)]) (pc := 481) (cs := (c0, s0)) hX ml_L_45 (L_T_summer qx60 hx61) (isk_u hi) (Rm_law hRm (by decide) ⟨by (try dsimp only); omega, by (try dsimp only); omega⟩) (by decide) rfl (Nat.le_of_ble_eq_true rfl) rfl (dk D_L_law_5 25 rfl) (fun qx61 => ?_)
                      refine r_aloadn (pc := 484) (cs := (c0, s0)) hX 2 rfl (dk D_L_law_5 26 rfl) ?_
                      refine r_aloadn (pc := 485) (cs := (c0, s0)) hX 0 rfl (dk D_L_law_5 27 rfl) ?_
                      refine r_iloadn (pc := 486) (cs := (c0, s0)) hX 3 rfl (dk D_L_law_5 28 rfl) ?_
                      refine r_iconst (pc := 487) (cs := (c0, s0)) hX (dk D_L_law_5 29 rfl) ?_
                      refine r_iadd (pc := 488) (cs := (c0, s0)) hX (dk D_L_law_5 30 rfl) ?_
                      obtain ⟨x63, hx63, h⟩ := bd_some h
                      refine r_sls (pc := 489) (cs := (c0, s0)) hX hsc (R32_w _) hx63 (dk D_L_law_5 31 rfl) (fun qx63 => ?_)
                      obtain ⟨_, hi, h⟩ := bd_some h
                      obtain ⟨x64, μ65, hx64, h⟩ := bd2_some h
                      refine r_invV0 (As := [(0, x63)]) (pc := 490) (cs := (c0, s0)) hX ml_L_48 (L_M_summer qx63 hx64) (isk_u hi) (Rm_law hRm (by decide) ⟨by (try dsimp only); omega, by (try dsimp only); omega⟩) (by decide) rfl (Nat.le_of_ble_eq_true rfl) rfl (dk D_L_law_5 32 rfl) (fun qx64 => ?_)
                      refine r_icmp_eq (pc := 493) (cs := (c0, s0)) hX qx61 qx64 1760 rfl (dk D_L_law_5 33 rfl) (fun hc => ?_) (fun hc => ?_)
                      · rw [if_pos hc] at h
                        refine r_iinc (lv' := [(3, 0, (w32 (v3 + 6))), (0, 2, -100), (1, 2, v1), (2, 2, v2)]) (pc := 1760) (cs := (c0, s0)) hX 3 rfl (by decide) rfl (dk D_L_law_31 30 rfl) ?_
                        refine r_goto (pc := 1763) (cs := (c0, s0)) hX 18 rfl (dk D_L_law_31 31 rfl) ?_
                        refine r_sub (lv' := [(0, 2, -100), (1, 2, v1), (2, 2, v2), (3, 0, (w32 (v3 + 6)))]) [1, 2, 3, 0] rfl ?_
                        exact ih (-100) v1 v2 (w32 (v3 + 6)) μ65 c0 s0 (by omega) rfl (R32_w _) h
                      · rw [if_neg hc] at h
                        refine r_iconst (pc := 496) (cs := (c0, s0)) hX (dk D_L_law_5 34 rfl) ?_
                        cases h
                    · rw [if_neg hc7] at h
                      by_cases hc8 : (and32 x1 63) = 8
                      · rw [if_pos hc8] at h
                        refine r_table (pc := 33) (cs := (c0, s0)) hX (by rw [hc8]; exact R32_lit rfl) 498 (dk D_L_law_0 21 rfl) (by omega) (by omega) (by rw [hc8]; rfl) rfl ?_
                        refine r_aloadn (pc := 498) (cs := (c0, s0)) hX 1 rfl (dk D_L_law_5 36 rfl) ?_
                        refine r_aloadn (pc := 499) (cs := (c0, s0)) hX 0 rfl (dk D_L_law_5 37 rfl) ?_
                        refine r_iloadn (pc := 500) (cs := (c0, s0)) hX 3 rfl (dk D_L_law_5 38 rfl) ?_
                        refine r_iconst (pc := 501) (cs := (c0, s0)) hX (dk D_L_law_5 39 rfl) ?_
                        refine r_iadd (pc := 502) (cs := (c0, s0)) hX (dk D_L_law_6 0 rfl) ?_
                        obtain ⟨x66, hx66, h⟩ := bd_some h
                        refine r_sls (pc := 503) (cs := (c0, s0)) hX hsc (R32_w _) hx66 (dk D_L_law_6 1 rfl) (fun qx66 => ?_)
                        obtain ⟨_, hi, h⟩ := bd_some h
                        obtain ⟨x67, μ68, hx67, h⟩ := bd2_some h
                        refine r_invV0 (As := [(0, x66)]) (pc := 504) (cs := (c0, s0)) hX ml_L_49 (L_T_comes qx66 hx67) (isk_u hi) (Rm_law hRm (by decide) ⟨by (try dsimp only); omega, by (try dsimp only); omega⟩) (by decide) rfl (Nat.le_of_ble_eq_true rfl) rfl (dk D_L_law_6 2 rfl) (fun qx67 => ?_)
                        refine r_aloadn (pc := 507) (cs := (c0, s0)) hX 2 rfl (dk D_L_law_6 3 rfl) ?_
                        refine r_aloadn (pc := 508) (cs := (c0, s0)) hX 0 rfl (dk D_L_law_6 4 rfl) ?_
                        refine r_iloadn (pc := 509) (cs := (c0, s0)) hX 3 rfl (dk D_L_law_6 5 rfl) ?_
                        refine r_iconst (pc := 510) (cs := (c0, s0)) hX (dk D_L_law_6 6 rfl) ?_
                        refine r_iadd (pc := 511) (cs := (c0, s0)) hX (dk D_L_law_6 7 rfl) ?_
                        obtain ⟨x69, hx69, h⟩ := bd_some h
                        refine r_sls (pc := 512) (cs := (c0, s0)) hX hsc (R32_w _) hx69 (dk D_L_law_6 8 rfl) (fun qx69 => ?_)
                        obtain ⟨_, hi, h⟩ := bd_some h
                        obtain ⟨x70, μ71, hx70, h⟩ := bd2_some h
                        refine r_invV0 (As := [(0, x69)]) (pc := 513) (cs := (c0, s0)) hX ml_L_52 (L_M_comes qx69 hx70) (isk_u hi) (Rm_law hRm (by decide) ⟨by (try dsimp only); omega, by (try dsimp only); omega⟩) (by decide) rfl (Nat.le_of_ble_eq_true rfl) rfl (dk D_L_law_6 9 rfl) (fun qx70 => ?_)
                        refine r_icmp_eq (pc := 516) (cs := (c0, s0)) hX qx67 qx70 1760 rfl (dk D_L_law_6 10 rfl) (fun hc => ?_) (fun hc => ?_)
                        · rw [if_pos hc] at h
                          refine r_iinc (lv' := [(3, 0, (w32 (v3 + 6))), (0, 2, -100), (1, 2, v1), (2, 2, v2)]) (pc := 1760) (cs := (c0, s0)) hX 3 rfl (by decide) rfl (dk D_L_law_31 30 rfl) ?_
                          refine r_goto (pc := 1763) (cs := (c0, s0)) hX 18 rfl (dk D_L_law_31 31 rfl) ?_
                          refine r_sub (lv' := [(0, 2, -100), (1, 2, v1), (2, 2, v2), (3, 0, (w32 (v3 + 6)))]) [1, 2, 3, 0] rfl ?_
                          exact ih (-100) v1 v2 (w32 (v3 + 6)) μ71 c0 s0 (by omega) rfl (R32_w _) h
                        · rw [if_neg hc] at h
                          refine r_iconst (pc := 519) (cs := (c0, s0)) hX (dk D_L_law_6 11 rfl) ?_
                          cases h
                      · rw [if_neg hc8] at h
                        by_cases hc9 : (and32 x1 63) = 9
                        · rw [if_pos hc9] at h
                          refine r_table (pc := 33) (cs := (c0, s0)) hX (by rw [hc9]; exact R32_lit rfl) 521 (dk D_L_law_0 21 rfl) (by omega) (by omega) (by rw [hc9]; rfl) rfl ?_
                          refine r_aloadn (pc := 521) (cs := (c0, s0)) hX 1 rfl (dk D_L_law_6 13 rfl) ?_
                          refine r_aloadn (pc := 522) (cs := (c0, s0)) hX 0 rfl (dk D_L_law_6 14 rfl) ?_
                          refine r_iloadn (pc := 523) (cs := (c0, s0)) hX 3 rfl (dk D_L_law_6 15 rfl) ?_
                          refine r_iconst (pc := 524) (cs := (c0, s0)) hX (dk D_L_law_6 16 rfl) ?_
                          refine r_iadd (pc := 525) (cs := (c0, s0)) hX (dk D_L_law_6 17 rfl) ?_
                          obtain ⟨x72, hx72, h⟩ := bd_some h
                          refine r_sls (pc := 526) (cs := (c0, s0)) hX hsc (R32_w _) hx72 (dk D_L_law_6 18 rfl) (fun qx72 => ?_)
                          refine r_aloadn (pc := 527) (cs := (c0, s0)) hX 0 rfl (dk D_L_law_6 19 rfl) ?_
                          refine r_iloadn (pc := 528) (cs := (c0, s0)) hX 3 rfl (dk D_L_law_6 20 rfl) ?_
                          refine r_iconst (pc := 529) (cs := (c0, s0)) hX (dk D_L_law_6 21 rfl) ?_
                          refine r_iadd (pc := 530) (cs := (c0, s0)) hX (dk D_L_law_6 22 rfl) ?_
                          obtain ⟨x73, hx73, h⟩ := bd_some h
                          refine r_sls (pc := 531) (cs := (c0, s0)) hX hsc (R32_w _) hx73 (dk D_L_law_6 23 rfl) (fun qx73 => ?_)
                          obtain ⟨_, hi, h⟩ := bd_some h
                          obtain ⟨x74, μ75, hx74, h⟩ := bd2_some h
                          refine r_invV0 (As := [(0, x72), (0, x73)]) (pc := 532) (cs := (c0, s0)) hX ml_L_53 (L_T_of qx72 qx73 hx74) (isk_u hi) (Rm_law hRm (by decide) ⟨by (try dsimp only); omega, by (try dsimp only); omega⟩) (by decide) rfl (Nat.le_of_ble_eq_true rfl) rfl (dk D_L_law_6 24 rfl) (fun qx74 => ?_)
                          refine r_aloadn (pc := 535) (cs := (c0, s0)) hX 2 rfl (dk D_L_law_6 25 rfl) ?_
                          refine r_aloadn (pc := 536) (cs := (c0, s0)) hX 0 rfl (dk D_L_law_6 26 rfl) ?_
                          refine r_iloadn (pc := 537) (cs := (c0, s0)) hX 3 rfl (dk D_L_law_6 27 rfl) ?_
                          refine r_iconst (pc := 538) (cs := (c0, s0)) hX (dk D_L_law_6 28 rfl) ?_
                          refine r_iadd (pc := 539) (cs := (c0, s0)) hX (dk D_L_law_6 29 rfl) ?_
                          obtain ⟨x76, hx76, h⟩ := bd_some h
                          refine r_sls (pc := 540) (cs := (c0, s0)) hX hsc (R32_w _) hx76 (dk D_L_law_6 30 rfl) (fun qx76 => ?_)
                          refine r_aloadn (pc := 541) (cs := (c0, s0)) hX 0 rfl (dk D_L_law_6 31 rfl) ?_
                          refine r_iloadn (pc := 542) (cs := (c0, s0)) hX 3 rfl (dk D_L_law_6 32 rfl) ?_
                          refine r_iconst (pc := 543) (cs := (c0, s0)) hX (dk D_L_law_6 33 rfl) ?_
                          refine r_iadd (pc := 544) (cs := (c0, s0)) hX (dk D_L_law_6 34 rfl) ?_
                          obtain ⟨x77, hx77, h⟩ := bd_some h
                          refine r_sls (pc := 545) (cs := (c0, s0)) hX hsc (R32_w _) hx77 (dk D_L_law_6 35 rfl) (fun qx77 => ?_)
                          obtain ⟨_, hi, h⟩ := bd_some h
                          obtain ⟨x78, μ79, hx78, h⟩ := bd2_some h
                          refine r_invV0 (As := [(0, x76), (0, x77)]) (pc := 546) (cs := (c0, s0)) hX ml_L_56 (L_M_of qx76 qx77 hx78) (isk_u hi) (Rm_law hRm (by decide) ⟨by (try dsimp only); omega, by (try dsimp only); omega⟩) (by decide) rfl (Nat.le_of_ble_eq_true rfl) rfl (dk D_L_law_6 36 rfl) (fun qx78 => ?_)
                          refine r_icmp_eq (pc := 549) (cs := (c0, s0)) hX qx74 qx78 1760 rfl (dk D_L_law_6 37 rfl) (fun hc => ?_) (fun hc => ?_)
                          · rw [if_pos hc] at h
                            refine r_iinc (lv' := [(3, 0, (w32 (v3 + 6))), (0, 2, -100), (1, 2, v1), (2, 2, v2)]) (pc := 1760) (cs := (c0, s0)) hX 3 rfl (by decide) rfl (dk D_L_law_31 30 rfl) ?_
                            refine r_goto (pc := 1763) (cs := (c0, s0)) hX 18 rfl (dk D_L_law_31 31 rfl) ?_
                            refine r_sub (lv' := [(0, 2, -100), (1, 2, v1), (2, 2, v2), (3, 0, (w32 (v3 + 6)))]) [1, 2, 3, 0] rfl ?_
                            exact ih (-100) v1 v2 (w32 (v3 + 6)) μ79 c0 s0 (by omega) rfl (R32_w _) h
                          · rw [if_neg hc] at h
                            refine r_iconst (pc := 552) (cs := (c0, s0)) hX (dk D_L_law_6 38 rfl) ?_
                            cases h
                        · rw [if_neg hc9] at h
                          by_cases hc10 : (and32 x1 63) = 10
                          · rw [if_pos hc10] at h
                            refine r_table (pc := 33) (cs := (c0, s0)) hX (by rw [hc10]; exact R32_lit rfl) 554 (dk D_L_law_0 21 rfl) (by omega) (by omega) (by rw [hc10]; rfl) rfl ?_
                            refine r_aloadn (pc := 554) (cs := (c0, s0)) hX 1 rfl (dk D_L_law_7 0 rfl) ?_
                            refine r_aloadn (pc := 555) (cs := (c0, s0)) hX 0 rfl (dk D_L_law_7 1 rfl) ?_
                            refine r_iloadn (pc := 556) (cs := (c0, s0)) hX 3 rfl (dk D_L_law_7 2 rfl) ?_
                            refine r_iconst (pc := 557) (cs := (c0, s0)) hX (dk D_L_law_7 3 rfl) ?_
                            refine r_iadd (pc := 558) (cs := (c0, s0)) hX (dk D_L_law_7 4 rfl) ?_
                            obtain ⟨x80, hx80, h⟩ := bd_some h
                            refine r_sls (pc := 559) (cs := (c0, s0)) hX hsc (R32_w _) hx80 (dk D_L_law_7 5 rfl) (fun qx80 => ?_)
                            refine r_aloadn (pc := 560) (cs := (c0, s0)) hX 0 rfl (dk D_L_law_7 6 rfl) ?_
                            refine r_iloadn (pc := 561) (cs := (c0, s0)) hX 3 rfl (dk D_L_law_7 7 rfl) ?_
                            refine r_iconst (pc := 562) (cs := (c0, s0)) hX (dk D_L_law_7 8 rfl) ?_
                            refine r_iadd (pc := 563) (cs := (c0, s0)) hX (dk D_L_law_7 9 rfl) ?_
                            obtain ⟨x81, hx81, h⟩ := bd_some h
                            refine r_sls (pc := 564) (cs := (c0, s0)) hX hsc (R32_w _) hx81 (dk D_L_law_7 10 rfl) (fun qx81 => ?_)
                            refine r_aloadn (pc := 565) (cs := (c0, s0)) hX 0 rfl (dk D_L_law_7 11 rfl) ?_
                            refine r_iloadn (pc := 566) (cs := (c0, s0)) hX 3 rfl (dk D_L_law_7 12 rfl) ?_
                            refine r_iconst (pc := 567) (cs := (c0, s0)) hX (dk D_L_law_7 13 rfl) ?_
                            refine r_iadd (pc := 568) (cs := (c0, s0)) hX (dk D_L_law_7 14 rfl) ?_
                            obtain ⟨x82, hx82, h⟩ := bd_some h
                            refine r_sls (pc := 569) (cs := (c0, s0)) hX hsc (R32_w _) hx82 (dk D_L_law_7 15 rfl) (fun qx82 => ?_)
                            obtain ⟨_, hi, h⟩ := bd_some h
                            obtain ⟨x83, μ84, hx83, h⟩ := bd2_some h
                            refine r_invV0 (As := [(0, x80), (0, x81), (0, x82)]) (pc := 570) (cs := (c0, s0)) hX ml_L_57 (L_T_slip qx80 qx81 qx82 hx83) (isk_u hi) (Rm_law hRm (by decide) ⟨by (try dsimp only); omega, by (try dsimp only); omega⟩) (by decide) rfl (Nat.le_of_ble_eq_true rfl) rfl (dk D_L_law_7 16 rfl) (fun qx83 => ?_)
                            refine r_aloadn (pc := 573) (cs := (c0, s0)) hX 2 rfl (dk D_L_law_7 17 rfl) ?_
                            refine r_aloadn (pc := 574) (cs := (c0, s0)) hX 0 rfl (dk D_L_law_7 18 rfl) ?_
                            refine r_iloadn (pc := 575) (cs := (c0, s0)) hX 3 rfl (dk D_L_law_7 19 rfl) ?_
                            refine r_iconst (pc := 576) (cs := (c0, s0)) hX (dk D_L_law_7 20 rfl) ?_
                            refine r_iadd (pc := 577) (cs := (c0, s0)) hX (dk D_L_law_7 21 rfl) ?_
                            obtain ⟨x85, hx85, h⟩ := bd_some h
                            refine r_sls (pc := 578) (cs := (c0, s0)) hX hsc (R32_w _) hx85 (dk D_L_law_7 22 rfl) (fun qx85 => ?_)
                            refine r_aloadn (pc := 579) (cs := (c0, s0)) hX 0 rfl (dk D_L_law_7 23 rfl) ?_
                            refine r_iloadn (pc := 580) (cs := (c0, s0)) hX 3 rfl (dk D_L_law_7 24 rfl) ?_
                            refine r_iconst (pc := 581) (cs := (c0, s0)) hX (dk D_L_law_7 25 rfl) ?_
                            refine r_iadd (pc := 582) (cs := (c0, s0)) hX (dk D_L_law_7 26 rfl) ?_
                            obtain ⟨x86, hx86, h⟩ := bd_some h
                            refine r_sls (pc := 583) (cs := (c0, s0)) hX hsc (R32_w _) hx86 (dk D_L_law_7 27 rfl) (fun qx86 => ?_)
                            refine r_aloadn (pc := 584) (cs := (c0, s0)) hX 0 rfl (dk D_L_law_7 28 rfl) ?_
                            refine r_iloadn (pc := 585) (cs := (c0, s0)) hX 3 rfl (dk D_L_law_7 29 rfl) ?_
                            refine r_iconst (pc := 586) (cs := (c0, s0)) hX (dk D_L_law_7 30 rfl) ?_
                            refine r_iadd (pc := 587) (cs := (c0, s0)) hX (dk D_L_law_7 31 rfl) ?_
                            obtain ⟨x87, hx87, h⟩ := bd_some h
                            refine r_sls (pc := 588) (cs := (c0, s0)) hX hsc (R32_w _) hx87 (dk D_L_law_7 32 rfl) (fun qx87 => ?_)
                            obtain ⟨_, hi, h⟩ := bd_some h
                            obtain ⟨x88, μ89, hx88, h⟩ := bd2_some h
                            refine r_invV0 (As := [(0, x85), (0, x86), (0, x87)]) (pc := 589) (cs := (c0, s0)) hX ml_L_61 (L_M_slip qx85 qx86 qx87 hx88) (isk_u hi) (Rm_law hRm (by decide) ⟨by (try dsimp only); omega, by (try dsimp only); omega⟩) (by decide) rfl (Nat.le_of_ble_eq_true rfl) rfl (dk D_L_law_7 33 rfl) (fun qx88 => ?_)
                            refine r_icmp_eq (pc := 592) (cs := (c0, s0)) hX qx83 qx88 1760 rfl (dk D_L_law_7 34 rfl) (fun hc => ?_) (fun hc => ?_)
                            · rw [if_pos hc] at h
                              refine r_iinc (lv' := [(3, 0, (w32 (v3 + 6))), (0, 2, -100), (1, 2, v1), (2, 2, v2)]) (pc := 1760) (cs := (c0, s0)) hX 3 rfl (by decide) rfl (dk D_L_law_31 30 rfl) ?_
                              refine r_goto (pc := 1763) (cs := (c0, s0)) hX 18 rfl (dk D_L_law_31 31 rfl) ?_
                              refine r_sub (lv' := [(0, 2, -100), (1, 2, v1), (2, 2, v2), (3, 0, (w32 (v3 + 6)))]) [1, 2, 3, 0] rfl ?_
                              exact ih (-100) v1 v2 (w32 (v3 + 6)) μ89 c0 s0 (by omega) rfl (R32_w _) h
                            · rw [if_neg hc] at h
                              refine r_iconst (pc := 595) (cs := (c0, s0)) hX (dk D_L_law_7 35 rfl) ?_
                              cases h
                          · rw [if_neg hc10] at h
                            by_cases hc11 : (and32 x1 63) = 11
                            · rw [if_pos hc11] at h
                              refine r_table (pc := 33) (cs := (c0, s0)) hX (by rw [hc11]; exact R32_lit rfl) 597 (dk D_L_law_0 21 rfl) (by omega) (by omega) (by rw [hc11]; rfl) rfl ?_
                              refine r_aloadn (pc := 597) (cs := (c0, s0)) hX 1 rfl (dk D_L_law_7 37 rfl) ?_
                              refine r_aloadn (pc := 598) (cs := (c0, s0)) hX 0 rfl (dk D_L_law_7 38 rfl) ?_
                              refine r_iloadn (pc := 599) (cs := (c0, s0)) hX 3 rfl (dk D_L_law_7 39 rfl) ?_
                              refine r_iconst (pc := 600) (cs := (c0, s0)) hX (dk D_L_law_8 0 rfl) ?_
                              refine r_iadd (pc := 601) (cs := (c0, s0)) hX (dk D_L_law_8 1 rfl) ?_
                              obtain ⟨x90, hx90, h⟩ := bd_some h
                              refine r_sls (pc := 602) (cs := (c0, s0)) hX hsc (R32_w _) hx90 (dk D_L_law_8 2 rfl) (fun qx90 => ?_)
                              refine r_aloadn (pc := 603) (cs := (c0, s0)) hX 0 rfl (dk D_L_law_8 3 rfl) ?_
                              refine r_iloadn (pc := 604) (cs := (c0, s0)) hX 3 rfl (dk D_L_law_8 4 rfl) ?_
                              refine r_iconst (pc := 605) (cs := (c0, s0)) hX (dk D_L_law_8 5 rfl) ?_
                              refine r_iadd (pc := 606) (cs := (c0, s0)) hX (dk D_L_law_8 6 rfl) ?_
                              obtain ⟨x91, hx91, h⟩ := bd_some h
                              refine r_sls (pc := 607) (cs := (c0, s0)) hX hsc (R32_w _) hx91 (dk D_L_law_8 7 rfl) (fun qx91 => ?_)
                              obtain ⟨_, hi, h⟩ := bd_some h
                              obtain ⟨x92, μ93, hx92, h⟩ := bd2_some h
                              refine r_invV0 (As := [(0, x90), (0, x91)]) (pc := 608) (cs := (c0, s0)) hX ml_L_62 (L_T_go qx90 qx91 hx92) (isk_u hi) (Rm_law hRm (by decide) ⟨by (try dsimp only); omega, by (try dsimp only); omega⟩) (by decide) rfl (Nat.le_of_ble_eq_true rfl) rfl (dk D_L_law_8 8 rfl) (fun qx92 => ?_)
                              refine r_aloadn (pc := 611) (cs := (c0, s0)) hX 2 rfl (dk D_L_law_8 9 rfl) ?_
                              refine r_aloadn (pc := 612) (cs := (c0, s0)) hX 0 rfl (dk D_L_law_8 10 rfl) ?_
                              refine r_iloadn (pc := 613) (cs := (c0, s0)) hX 3 rfl (dk D_L_law_8 11 rfl) ?_
                              refine r_iconst (pc := 614) (cs := (c0, s0)) hX (dk D_L_law_8 12 rfl) ?_
                              refine r_iadd (pc := 615) (cs := (c0, s0)) hX (dk D_L_law_8 13 rfl) ?_
                              obtain ⟨x94, hx94, h⟩ := bd_some h
                              refine r_sls (pc := 616) (cs := (c0, s0)) hX hsc (R32_w _) hx94 (dk D_L_law_8 14 rfl) (fun qx94 => ?_)
                              refine r_aloadn (pc := 617) (cs := (c0, s0)) hX 0 rfl (dk D_L_law_8 15 rfl) ?_
                              refine r_iloadn (pc := 618) (cs := (c0, s0)) hX 3 rfl (dk D_L_law_8 16 rfl) ?_
                              refine r_iconst (pc := 619) (cs := (c0, s0)) hX (dk D_L_law_8 17 rfl) ?_
                              refine r_iadd (pc := 620) (cs := (c0, s0)) hX (dk D_L_law_8 18 rfl) ?_
                              obtain ⟨x95, hx95, h⟩ := bd_some h
                              refine r_sls (pc := 621) (cs := (c0, s0)) hX hsc (R32_w _) hx95 (dk D_L_law_8 19 rfl) (fun qx95 => ?_)
                              obtain ⟨_, hi, h⟩ := bd_some h
                              obtain ⟨x96, μ97, hx96, h⟩ := bd2_some h
                              refine r_invV0 (As := [(0, x94), (0, x95)]) (pc := 622) (cs := (c0, s0)) hX ml_L_65 (L_M_go qx94 qx95 hx96) (isk_u hi) (Rm_law hRm (by decide) ⟨by (try dsimp only); omega, by (try dsimp only); omega⟩) (by decide) rfl (Nat.le_of_ble_eq_true rfl) rfl (dk D_L_law_8 20 rfl) (fun qx96 => ?_)
                              refine r_icmp_eq (pc := 625) (cs := (c0, s0)) hX qx92 qx96 1760 rfl (dk D_L_law_8 21 rfl) (fun hc => ?_) (fun hc => ?_)
                              · rw [if_pos hc] at h
                                refine r_iinc (lv' := [(3, 0, (w32 (v3 + 6))), (0, 2, -100), (1, 2, v1), (2, 2, v2)]) (pc := 1760) (cs := (c0, s0)) hX 3 rfl (by decide) rfl (dk D_L_law_31 30 rfl) ?_
                                refine r_goto (pc := 1763) (cs := (c0, s0)) hX 18 rfl (dk D_L_law_31 31 rfl) ?_
                                refine r_sub (lv' := [(0, 2, -100), (1, 2, v1), (2, 2, v2), (3, 0, (w32 (v3 + 6)))]) [1, 2, 3, 0] rfl ?_
                                exact ih (-100) v1 v2 (w32 (v3 + 6)) μ97 c0 s0 (by omega) rfl (R32_w _) h
                              · rw [if_neg hc] at h
                                refine r_iconst (pc := 628) (cs := (c0, s0)) hX (dk D_L_law_8 22 rfl) ?_
                                cases h
                            · rw [if_neg hc11] at h
                              by_cases hc12 : (and32 x1 63) = 12
                              · rw [if_pos hc12] at h
                                refine r_table (pc := 33) (cs := (c0, s0)) hX (by rw [hc12]; exact R32_lit rfl) 630 (dk D_L_law_0 21 rfl) (by omega) (by omega) (by rw [hc12]; rfl) rfl ?_
                                refine r_aloadn (pc := 630) (cs := (c0, s0)) hX 1 rfl (dk D_L_law_8 24 rfl) ?_
                                refine r_aloadn (pc := 631) (cs := (c0, s0)) hX 0 rfl (dk D_L_law_8 25 rfl) ?_
                                refine r_iloadn (pc := 632) (cs := (c0, s0)) hX 3 rfl (dk D_L_law_8 26 rfl) ?_
                                refine r_iconst (pc := 633) (cs := (c0, s0)) hX (dk D_L_law_8 27 rfl) ?_
                                refine r_iadd (pc := 634) (cs := (c0, s0)) hX (dk D_L_law_8 28 rfl) ?_
                                obtain ⟨x98, hx98, h⟩ := bd_some h
                                refine r_sls (pc := 635) (cs := (c0, s0)) hX hsc (R32_w _) hx98 (dk D_L_law_8 29 rfl) (fun qx98 => ?_)
                                obtain ⟨_, hi, h⟩ := bd_some h
                                obtain ⟨x99, μ100, hx99, h⟩ := bd2_some h
                                refine r_invV0 (As := [(0, x98)]) (pc := 636) (cs := (c0, s0)) hX ml_L_66 (L_T_toss qx98 hx99) (isk_u hi) (Rm_law hRm (by decide) ⟨by (try dsimp only); omega, by (try dsimp only); omega⟩) (by decide) rfl (Nat.le_of_ble_eq_true rfl) rfl (dk D_L_law_8 30 rfl) (fun qx99 => ?_)
                                refine r_aloadn (pc := 639) (cs := (c0, s0)) hX 2 rfl (dk D_L_law_8 31 rfl) ?_
                                refine r_aloadn (pc := 640) (cs := (c0, s0)) hX 0 rfl (dk D_L_law_8 32 rfl) ?_
                                refine r_iloadn (pc := 641) (cs := (c0, s0)) hX 3 rfl (dk D_L_law_8 33 rfl) ?_
                                refine r_iconst (pc := 642) (cs := (c0, s0)) hX (dk D_L_law_8 34 rfl) ?_
                                refine r_iadd (pc := 643) (cs := (c0, s0)) hX (dk D_L_law_8 35 rfl) ?_
                                obtain ⟨x101, hx101, h⟩ := bd_some h
                                refine r_sls (pc := 644) (cs := (c0, s0)) hX hsc (R32_w _) hx101 (dk D_L_law_8 36 rfl) (fun qx101 => ?_)
                                obtain ⟨_, hi, h⟩ := bd_some h
                                obtain ⟨x102, μ103, hx102, h⟩ := bd2_some h
                                refine r_invV0 (As := [(0, x101)]) (pc := 645) (cs := (c0, s0)) hX ml_L_69 (L_M_toss qx101 hx102) (isk_u hi) (Rm_law hRm (by decide) ⟨by (try dsimp only); omega, by (try dsimp only); omega⟩) (by decide) rfl (Nat.le_of_ble_eq_true rfl) rfl (dk D_L_law_8 37 rfl) (fun qx102 => ?_)
                                refine r_icmp_eq (pc := 648) (cs := (c0, s0)) hX qx99 qx102 1760 rfl (dk D_L_law_8 38 rfl) (fun hc => ?_) (fun hc => ?_)
                                · rw [if_pos hc] at h
                                  refine r_iinc (lv' := [(3, 0, (w32 (v3 + 6))), (0, 2, -100), (1, 2, v1), (2, 2, v2)]) (pc := 1760) (cs := (c0, s0)) hX 3 rfl (by decide) rfl (dk D_L_law_31 30 rfl) ?_
                                  refine r_goto (pc := 1763) (cs := (c0, s0)) hX 18 rfl (dk D_L_law_31 31 rfl) ?_
                                  refine r_sub (lv' := [(0, 2, -100), (1, 2, v1), (2, 2, v2), (3, 0, (w32 (v3 + 6)))]) [1, 2, 3, 0] rfl ?_
                                  exact ih (-100) v1 v2 (w32 (v3 + 6)) μ103 c0 s0 (by omega) rfl (R32_w _) h
                                · rw [if_neg hc] at h
                                  refine r_iconst (pc := 651) (cs := (c0, s0)) hX (dk D_L_law_8 39 rfl) ?_
                                  cases h
                              · rw [if_neg hc12] at h
                                by_cases hc13 : (and32 x1 63) = 13
                                · rw [if_pos hc13] at h
                                  refine r_table (pc := 33) (cs := (c0, s0)) hX (by rw [hc13]; exact R32_lit rfl) 653 (dk D_L_law_0 21 rfl) (by omega) (by omega) (by rw [hc13]; rfl) rfl ?_
                                  refine r_aloadn (pc := 653) (cs := (c0, s0)) hX 1 rfl (dk D_L_law_9 1 rfl) ?_
                                  refine r_aloadn (pc := 654) (cs := (c0, s0)) hX 0 rfl (dk D_L_law_9 2 rfl) ?_
                                  refine r_iloadn (pc := 655) (cs := (c0, s0)) hX 3 rfl (dk D_L_law_9 3 rfl) ?_
                                  refine r_iconst (pc := 656) (cs := (c0, s0)) hX (dk D_L_law_9 4 rfl) ?_
                                  refine r_iadd (pc := 657) (cs := (c0, s0)) hX (dk D_L_law_9 5 rfl) ?_
                                  obtain ⟨x104, hx104, h⟩ := bd_some h
                                  refine r_sls (pc := 658) (cs := (c0, s0)) hX hsc (R32_w _) hx104 (dk D_L_law_9 6 rfl) (fun qx104 => ?_)
                                  refine r_aloadn (pc := 659) (cs := (c0, s0)) hX 0 rfl (dk D_L_law_9 7 rfl) ?_
                                  refine r_iloadn (pc := 660) (cs := (c0, s0)) hX 3 rfl (dk D_L_law_9 8 rfl) ?_
                                  refine r_iconst (pc := 661) (cs := (c0, s0)) hX (dk D_L_law_9 9 rfl) ?_
                                  refine r_iadd (pc := 662) (cs := (c0, s0)) hX (dk D_L_law_9 10 rfl) ?_
                                  obtain ⟨x105, hx105, h⟩ := bd_some h
                                  refine r_sls (pc := 663) (cs := (c0, s0)) hX hsc (R32_w _) hx105 (dk D_L_law_9 11 rfl) (fun qx105 => ?_)
                                  obtain ⟨_, hi, h⟩ := bd_some h
                                  obtain ⟨x106, μ107, hx106, h⟩ := bd2_some h
                                  refine r_invV0 (As := [(0, x104), (0, x105)]) (pc := 664) (cs := (c0, s0)) hX ml_L_70 (L_T_rest qx104 qx105 hx106) (isk_u hi) (Rm_law hRm (by decide) ⟨by (try dsimp only); omega, by (try dsimp only); omega⟩) (by decide) rfl (Nat.le_of_ble_eq_true rfl) rfl (dk D_L_law_9 12 rfl) (fun qx106 => ?_)
                                  refine r_aloadn (pc := 667) (cs := (c0, s0)) hX 2 rfl (dk D_L_law_9 13 rfl) ?_
                                  refine r_aloadn (pc := 668) (cs := (c0, s0)) hX 0 rfl (dk D_L_law_9 14 rfl) ?_
                                  refine r_iloadn (pc := 669) (cs := (c0, s0)) hX 3 rfl (dk D_L_law_9 15 rfl) ?_
                                  refine r_iconst (pc := 670) (cs := (c0, s0)) hX (dk D_L_law_9 16 rfl) ?_
                                  refine r_iadd (pc := 671) (cs := (c0, s0)) hX (dk D_L_law_9 17 rfl) ?_
                                  obtain ⟨x108, hx108, h⟩ := bd_some h
                                  refine r_sls (pc := 672) (cs := (c0, s0)) hX hsc (R32_w _) hx108 (dk D_L_law_9 18 rfl) (fun qx108 => ?_)
                                  refine r_aloadn (pc := 673) (cs := (c0, s0)) hX 0 rfl (dk D_L_law_9 19 rfl) ?_
                                  refine r_iloadn (pc := 674) (cs := (c0, s0)) hX 3 rfl (dk D_L_law_9 20 rfl) ?_
                                  refine r_iconst (pc := 675) (cs := (c0, s0)) hX (dk D_L_law_9 21 rfl) ?_
                                  refine r_iadd (pc := 676) (cs := (c0, s0)) hX (dk D_L_law_9 22 rfl) ?_
                                  obtain ⟨x109, hx109, h⟩ := bd_some h
                                  refine r_sls (pc := 677) (cs := (c0, s0)) hX hsc (R32_w _) hx109 (dk D_L_law_9 23 rfl) (fun qx109 => ?_)
                                  obtain ⟨_, hi, h⟩ := bd_some h
                                  obtain ⟨x110, μ111, hx110, h⟩ := bd2_some h
                                  refine r_invV0 (As := [(0, x108), (0, x109)]) (pc := 678) (cs := (c0, s0)) hX ml_L_73 (L_M_rest qx108 qx109 hx110) (isk_u hi) (Rm_law hRm (by decide) ⟨by (try dsimp only); omega, by (try dsimp only); omega⟩) (by decide) rfl (Nat.le_of_ble_eq_true rfl) rfl (dk D_L_law_9 24 rfl) (fun qx110 => ?_)
                                  refine r_icmp_eq (pc := 681) (cs := (c0, s0)) hX qx106 qx110 1760 rfl (dk D_L_law_9 25 rfl) (fun hc => ?_) (fun hc => ?_)
                                  · rw [if_pos hc] at h
                                    refine r_iinc (lv' := [(3, 0, (w32 (v3 + 6))), (0, 2, -100), (1, 2, v1), (2, 2, v2)]) (pc := 1760) (cs := (c0, s0)) hX 3 rfl (by decide) rfl (dk D_L_law_31 30 rfl) ?_
                                    refine r_goto (pc := 1763) (cs := (c0, s0)) hX 18 rfl (dk D_L_law_31 31 rfl) ?_
                                    refine r_sub (lv' := [(0, 2, -100), (1, 2, v1), (2, 2, v2), (3, 0, (w32 (v3 + 6)))]) [1, 2, 3, 0] rfl ?_
                                    exact ih (-100) v1 v2 (w32 (v3 + 6)) μ111 c0 s0 (by omega) rfl (R32_w _) h
                                  · rw [if_neg hc] at h
                                    refine r_iconst (pc := 684) (cs := (c0, s0)) hX (dk D_L_law_9 26 rfl) ?_
                                    cases h
                                · rw [if_neg hc13] at h
                                  by_cases hc14 : (and32 x1 63) = 14
                                  · rw [if_pos hc14] at h
                                    refine r_table (pc := 33) (cs := (c0, s0)) hX (by rw [hc14]; exact R32_lit rfl) 686 (dk D_L_law_0 21 rfl) (by omega) (by omega) (by rw [hc14]; rfl) rfl ?_
                                    refine r_aloadn (pc := 686) (cs := (c0, s0)) hX 1 rfl (dk D_L_law_9 28 rfl) ?_
                                    refine r_aloadn (pc := 687) (cs := (c0, s0)) hX 0 rfl (dk D_L_law_9 29 rfl) ?_
                                    refine r_iloadn (pc := 688) (cs := (c0, s0)) hX 3 rfl (dk D_L_law_9 30 rfl) ?_
                                    refine r_iconst (pc := 689) (cs := (c0, s0)) hX (dk D_L_law_9 31 rfl) ?_
                                    refine r_iadd (pc := 690) (cs := (c0, s0)) hX (dk D_L_law_9 32 rfl) ?_
                                    obtain ⟨x112, hx112, h⟩ := bd_some h
                                    refine r_sls (pc := 691) (cs := (c0, s0)) hX hsc (R32_w _) hx112 (dk D_L_law_9 33 rfl) (fun qx112 => ?_)
                                    refine r_aloadn (pc := 692) (cs := (c0, s0)) hX 0 rfl (dk D_L_law_9 34 rfl) ?_
                                    refine r_iloadn (pc := 693) (cs := (c0, s0)) hX 3 rfl (dk D_L_law_9 35 rfl) ?_
                                    refine r_iconst (pc := 694) (cs := (c0, s0)) hX (dk D_L_law_9 36 rfl) ?_
                                    refine r_iadd (pc := 695) (cs := (c0, s0)) hX (dk D_L_law_9 37 rfl) ?_
                                    obtain ⟨x113, hx113, h⟩ := bd_some h
                                    refine r_sls (pc := 696) (cs := (c0, s0)) hX hsc (R32_w _) hx113 (dk D_L_law_9 38 rfl) (fun qx113 => ?_)
                                    refine r_aloadn (pc := 697) (cs := (c0, s0)) hX 0 rfl (dk D_L_law_9 39 rfl) ?_
                                    refine r_iloadn (pc := 698) (cs := (c0, s0)) hX 3 rfl (dk D_L_law_10 0 rfl) ?_
                                    refine r_iconst (pc := 699) (cs := (c0, s0)) hX (dk D_L_law_10 1 rfl) ?_
                                    refine r_iadd (pc := 700) (cs := (c0, s0)) hX (dk D_L_law_10 2 rfl) ?_
                                    obtain ⟨x114, hx114, h⟩ := bd_some h
                                    refine r_sls (pc := 701) (cs := (c0, s0)) hX hsc (R32_w _) hx114 (dk D_L_law_10 3 rfl) (fun qx114 => ?_)
                                    obtain ⟨_, hi, h⟩ := bd_some h
                                    obtain ⟨x115, μ116, hx115, h⟩ := bd2_some h
                                    refine r_invV0 (As := [(0, x112), (0, x113), (0, x114)]) (pc := 702) (cs := (c0, s0)) hX ml_L_74 (L_T_give qx112 qx113 qx114 hx115) (isk_u hi) (Rm_law hRm (by decide) ⟨by (try dsimp only); omega, by (try dsimp only); omega⟩) (by decide) rfl (Nat.le_of_ble_eq_true rfl) rfl (dk D_L_law_10 4 rfl) (fun qx115 => ?_)
                                    refine r_aloadn (pc := 705) (cs := (c0, s0)) hX 2 rfl (dk D_L_law_10 5 rfl) ?_
                                    refine r_aloadn (pc := 706) (cs := (c0, s0)) hX 0 rfl (dk D_L_law_10 6 rfl) ?_
                                    refine r_iloadn (pc := 707) (cs := (c0, s0)) hX 3 rfl (dk D_L_law_10 7 rfl) ?_
                                    refine r_iconst (pc := 708) (cs := (c0, s0)) hX (dk D_L_law_10 8 rfl) ?_
                                    refine r_iadd (pc := 709) (cs := (c0, s0)) hX (dk D_L_law_10 9 rfl) ?_
                                    obtain ⟨x117, hx117, h⟩ := bd_some h
                                    refine r_sls (pc := 710) (cs := (c0, s0)) hX hsc (R32_w _) hx117 (dk D_L_law_10 10 rfl) (fun qx117 => ?_)
                                    refine r_aloadn (pc := 711) (cs := (c0, s0)) hX 0 rfl (dk D_L_law_10 11 rfl) ?_
                                    refine r_iloadn (pc := 712) (cs := (c0, s0)) hX 3 rfl (dk D_L_law_10 12 rfl) ?_
                                    refine r_iconst (pc := 713) (cs := (c0, s0)) hX (dk D_L_law_10 13 rfl) ?_
                                    refine r_iadd (pc := 714) (cs := (c0, s0)) hX (dk D_L_law_10 14 rfl) ?_
                                    obtain ⟨x118, hx118, h⟩ := bd_some h
                                    refine r_sls (pc := 715) (cs := (c0, s0)) hX hsc (R32_w _) hx118 (dk D_L_law_10 15 rfl) (fun qx118 => ?_)
                                    refine r_aloadn (pc := 716) (cs := (c0, s0)) hX 0 rfl (dk D_L_law_10 16 rfl) ?_
                                    refine r_iloadn (pc := 717) (cs := (c0, s0)) hX 3 rfl (dk D_L_law_10 17 rfl) ?_
                                    refine r_iconst (pc := 718) (cs := (c0, s0)) hX (dk D_L_law_10 18 rfl) ?_
                                    refine r_iadd (pc := 719) (cs := (c0, s0)) hX (dk D_L_law_10 19 rfl) ?_
                                    obtain ⟨x119, hx119, h⟩ := bd_some h
                                    refine r_sls (pc := 720) (cs := (c0, s0)) hX hsc (R32_w _) hx119 (dk D_L_law_10 20 rfl) (fun qx119 => ?_)
                                    obtain ⟨_, hi, h⟩ := bd_some h
                                    obtain ⟨x120, μ121, hx120, h⟩ := bd2_some h
                                    refine r_invV0 (As := [(0, x117), (0, x118), (0, x119)]) (pc := 721) (cs := (c0, s0)) hX ml_L_77 (L_M_give qx117 qx118 qx119 hx120) (isk_u hi) (Rm_law hRm (by decide) ⟨by (try dsimp only); omega, by (try dsimp only); omega⟩) (by decide) rfl (Nat.le_of_ble_eq_true rfl) rfl (dk D_L_law_10 21 rfl) (fun qx120 => ?_)
                                    refine r_icmp_eq (pc := 724) (cs := (c0, s0)) hX qx115 qx120 1760 rfl (dk D_L_law_10 22 rfl) (fun hc => ?_) (fun hc => ?_)
                                    · rw [if_pos hc] at h
                                      refine r_iinc (lv' := [(3, 0, (w32 (v3 + 6))), (0, 2, -100), (1, 2, v1), (2, 2, v2)]) (pc := 1760) (cs := (c0, s0)) hX 3 rfl (by decide) rfl (dk D_L_law_31 30 rfl) ?_
                                      refine r_goto (pc := 1763) (cs := (c0, s0)) hX 18 rfl (dk D_L_law_31 31 rfl) ?_
                                      refine r_sub (lv' := [(0, 2, -100), (1, 2, v1), (2, 2, v2), (3, 0, (w32 (v3 + 6)))]) [1, 2, 3, 0] rfl ?_
                                      exact ih (-100) v1 v2 (w32 (v3 + 6)) μ121 c0 s0 (by omega) rfl (R32_w _) h
                                    · rw [if_neg hc] at h
                                      refine r_iconst (pc := 727) (cs := (c0, s0)) hX (dk D_L_law_10 23 rfl) ?_
                                      cases h
                                  · rw [if_neg hc14] at h
                                    by_cases hc15 : (and32 x1 63) = 15
                                    · rw [if_pos hc15] at h
                                      refine r_table (pc := 33) (cs := (c0, s0)) hX (by rw [hc15]; exact R32_lit rfl) 729 (dk D_L_law_0 21 rfl) (by omega) (by omega) (by rw [hc15]; rfl) rfl ?_
                                      refine r_aloadn (pc := 729) (cs := (c0, s0)) hX 1 rfl (dk D_L_law_10 25 rfl) ?_
                                      refine r_aloadn (pc := 730) (cs := (c0, s0)) hX 0 rfl (dk D_L_law_10 26 rfl) ?_
                                      refine r_iloadn (pc := 731) (cs := (c0, s0)) hX 3 rfl (dk D_L_law_10 27 rfl) ?_
                                      refine r_iconst (pc := 732) (cs := (c0, s0)) hX (dk D_L_law_10 28 rfl) ?_
                                      refine r_iadd (pc := 733) (cs := (c0, s0)) hX (dk D_L_law_10 29 rfl) ?_
                                      obtain ⟨x122, hx122, h⟩ := bd_some h
                                      refine r_sls (pc := 734) (cs := (c0, s0)) hX hsc (R32_w _) hx122 (dk D_L_law_10 30 rfl) (fun qx122 => ?_)
                                      refine r_aloadn (pc := 735) (cs := (c0, s0)) hX 0 rfl (dk D_L_law_10 31 rfl) ?_
                                      refine r_iloadn (pc := 736) (cs := (c0, s0)) hX 3 rfl (dk D_L_law_10 32 rfl) ?_
                                      refine r_iconst (pc := 737) (cs := (c0, s0)) hX (dk D_L_law_10 33 rfl) ?_
                                      refine r_iadd (pc := 738) (cs := (c0, s0)) hX (dk D_L_law_10 34 rfl) ?_
                                      obtain ⟨x123, hx123, h⟩ := bd_some h
                                      refine r_sls (pc := 739) (cs := (c0, s0)) hX hsc (R32_w _) hx123 (dk D_L_law_10 35 rfl) (fun qx123 => ?_)
                                      obtain ⟨_, hi, h⟩ := bd_some h
                                      obtain ⟨x124, μ125, hx124, h⟩ := bd2_some h
                                      refine r_invV0 (As := [(0, x122), (0, x123)]) (pc := 740) (cs := (c0, s0)) hX ml_L_78 (L_T_change qx122 qx123 hx124) (isk_u hi) (Rm_law hRm (by decide) ⟨by (try dsimp only); omega, by (try dsimp only); omega⟩) (by decide) rfl (Nat.le_of_ble_eq_true rfl) rfl (dk D_L_law_10 36 rfl) (fun qx124 => ?_)
                                      refine r_aloadn (pc := 743) (cs := (c0, s0)) hX 2 rfl (dk D_L_law_10 37 rfl) ?_
                                      refine r_aloadn (pc := 744) (cs := (c0, s0)) hX 0 rfl (dk D_L_law_10 38 rfl) ?_
                                      refine r_iloadn (pc := 745) (cs := (c0, s0)) hX 3 rfl (dk D_L_law_10 39 rfl) ?_
                                      refine r_iconst (pc := 746) (cs := (c0, s0)) hX (dk D_L_law_11 0 rfl) ?_
                                      refine r_iadd (pc := 747) (cs := (c0, s0)) hX (dk D_L_law_11 1 rfl) ?_
                                      obtain ⟨x126, hx126, h⟩ := bd_some h
                                      refine r_sls (pc := 748) (cs := (c0, s0)) hX hsc (R32_w _) hx126 (dk D_L_law_11 2 rfl) (fun qx126 => ?_)
                                      refine r_aloadn (pc := 749) (cs := (c0, s0)) hX 0 rfl (dk D_L_law_11 3 rfl) ?_
                                      refine r_iloadn (pc := 750) (cs := (c0, s0)) hX 3 rfl (dk D_L_law_11 4 rfl) ?_
                                      refine r_iconst (pc := 751) (cs := (c0, s0)) hX (dk D_L_law_11 5 rfl) ?_
                                      refine r_iadd (pc := 752) (cs := (c0, s0)) hX (dk D_L_law_11 6 rfl) ?_
                                      obtain ⟨x127, hx127, h⟩ := bd_some h
                                      refine r_sls (pc := 753) (cs := (c0, s0)) hX hsc (R32_w _) hx127 (dk D_L_law_11 7 rfl) (fun qx127 => ?_)
                                      obtain ⟨_, hi, h⟩ := bd_some h
                                      obtain ⟨x128, μ129, hx128, h⟩ := bd2_some h
                                      refine r_invV0 (As := [(0, x126), (0, x127)]) (pc := 754) (cs := (c0, s0)) hX ml_L_81 (L_M_change qx126 qx127 hx128) (isk_u hi) (Rm_law hRm (by decide) ⟨by (try dsimp only); omega, by (try dsimp only); omega⟩) (by decide) rfl (Nat.le_of_ble_eq_true rfl) rfl (dk D_L_law_11 8 rfl) (fun qx128 => ?_)
                                      refine r_icmp_eq (pc := 757) (cs := (c0, s0)) hX qx124 qx128 1760 rfl (dk D_L_law_11 9 rfl) (fun hc => ?_) (fun hc => ?_)
                                      · rw [if_pos hc] at h
                                        refine r_iinc (lv' := [(3, 0, (w32 (v3 + 6))), (0, 2, -100), (1, 2, v1), (2, 2, v2)]) (pc := 1760) (cs := (c0, s0)) hX 3 rfl (by decide) rfl (dk D_L_law_31 30 rfl) ?_
                                        refine r_goto (pc := 1763) (cs := (c0, s0)) hX 18 rfl (dk D_L_law_31 31 rfl) ?_
                                        refine r_sub (lv' := [(0, 2, -100), (1, 2, v1), (2, 2, v2), (3, 0, (w32 (v3 + 6)))]) [1, 2, 3, 0] rfl ?_
                                        exact ih (-100) v1 v2 (w32 (v3 + 6)) μ129 c0 s0 (by omega) rfl (R32_w _) h
                                      · rw [if_neg hc] at h
                                        refine r_iconst (pc := 760) (cs := (c0, s0)) hX (dk D_L_law_11 10 rfl) ?_
                                        cases h
                                    · rw [if_neg hc15] at h
                                      by_cases hc16 : (and32 x1 63) = 16
                                      · rw [if_pos hc16] at h
                                        refine r_table (pc := 33) (cs := (c0, s0)) hX (by rw [hc16]; exact R32_lit rfl) 762 (dk D_L_law_0 21 rfl) (by omega) (by omega) (by rw [hc16]; rfl) rfl ?_
                                        refine r_aloadn (pc := 762) (cs := (c0, s0)) hX 1 rfl (dk D_L_law_11 12 rfl) ?_
                                        refine r_aloadn (pc := 763) (cs := (c0, s0)) hX 0 rfl (dk D_L_law_11 13 rfl) ?_
                                        refine r_iloadn (pc := 764) (cs := (c0, s0)) hX 3 rfl (dk D_L_law_11 14 rfl) ?_
                                        refine r_iconst (pc := 765) (cs := (c0, s0)) hX (dk D_L_law_11 15 rfl) ?_
                                        refine r_iadd (pc := 766) (cs := (c0, s0)) hX (dk D_L_law_11 16 rfl) ?_
                                        obtain ⟨x130, hx130, h⟩ := bd_some h
                                        refine r_sls (pc := 767) (cs := (c0, s0)) hX hsc (R32_w _) hx130 (dk D_L_law_11 17 rfl) (fun qx130 => ?_)
                                        refine r_aloadn (pc := 768) (cs := (c0, s0)) hX 0 rfl (dk D_L_law_11 18 rfl) ?_
                                        refine r_iloadn (pc := 769) (cs := (c0, s0)) hX 3 rfl (dk D_L_law_11 19 rfl) ?_
                                        refine r_iconst (pc := 770) (cs := (c0, s0)) hX (dk D_L_law_11 20 rfl) ?_
                                        refine r_iadd (pc := 771) (cs := (c0, s0)) hX (dk D_L_law_11 21 rfl) ?_
                                        obtain ⟨x131, hx131, h⟩ := bd_some h
                                        refine r_sls (pc := 772) (cs := (c0, s0)) hX hsc (R32_w _) hx131 (dk D_L_law_11 22 rfl) (fun qx131 => ?_)
                                        refine r_aloadn (pc := 773) (cs := (c0, s0)) hX 0 rfl (dk D_L_law_11 23 rfl) ?_
                                        refine r_iloadn (pc := 774) (cs := (c0, s0)) hX 3 rfl (dk D_L_law_11 24 rfl) ?_
                                        refine r_iconst (pc := 775) (cs := (c0, s0)) hX (dk D_L_law_11 25 rfl) ?_
                                        refine r_iadd (pc := 776) (cs := (c0, s0)) hX (dk D_L_law_11 26 rfl) ?_
                                        obtain ⟨x132, hx132, h⟩ := bd_some h
                                        refine r_sls (pc := 777) (cs := (c0, s0)) hX hsc (R32_w _) hx132 (dk D_L_law_11 27 rfl) (fun qx132 => ?_)
                                        obtain ⟨_, hi, h⟩ := bd_some h
                                        obtain ⟨x133, μ134, hx133, h⟩ := bd2_some h
                                        refine r_invV0 (As := [(0, x130), (0, x131), (0, x132)]) (pc := 778) (cs := (c0, s0)) hX ml_L_82 (L_T_judge qx130 qx131 qx132 hx133) (isk_u hi) (Rm_law hRm (by decide) ⟨by (try dsimp only); omega, by (try dsimp only); omega⟩) (by decide) rfl (Nat.le_of_ble_eq_true rfl) rfl (dk D_L_law_11 28 rfl) (fun qx133 => ?_)
                                        refine r_aloadn (pc := 781) (cs := (c0, s0)) hX 2 rfl (dk D_L_law_11 29 rfl) ?_
                                        refine r_aloadn (pc := 782) (cs := (c0, s0)) hX 0 rfl (dk D_L_law_11 30 rfl) ?_
                                        refine r_iloadn (pc := 783) (cs := (c0, s0)) hX 3 rfl (dk D_L_law_11 31 rfl) ?_
                                        refine r_iconst (pc := 784) (cs := (c0, s0)) hX (dk D_L_law_11 32 rfl) ?_
                                        refine r_iadd (pc := 785) (cs := (c0, s0)) hX (dk D_L_law_11 33 rfl) ?_
                                        obtain ⟨x135, hx135, h⟩ := bd_some h
                                        refine r_sls (pc := 786) (cs := (c0, s0)) hX hsc (R32_w _) hx135 (dk D_L_law_11 34 rfl) (fun qx135 => ?_)
                                        refine r_aloadn (pc := 787) (cs := (c0, s0)) hX 0 rfl (dk D_L_law_11 35 rfl) ?_
                                        refine r_iloadn (pc := 788) (cs := (c0, s0)) hX 3 rfl (dk D_L_law_11 36 rfl) ?_
                                        refine r_iconst (pc := 789) (cs := (c0, s0)) hX (dk D_L_law_11 37 rfl) ?_
                                        refine r_iadd (pc := 790) (cs := (c0, s0)) hX (dk D_L_law_11 38 rfl) ?_
                                        obtain ⟨x136, hx136, h⟩ := bd_some h
                                        refine r_sls (pc := 791) (cs := (c0, s0)) hX hsc (R32_w _) hx136 (dk D_L_law_11 39 rfl) (fun qx136 => ?_)
                                        refine r_aloadn (pc := 792) (cs := (c0, s0)) hX 0 rfl (dk D_L_law_12 0 rfl) ?_
                                        refine r_iloadn (pc := 793) (cs := (c0, s0)) hX 3 rfl (dk D_L_law_12 1 rfl) ?_
                                        refine r_iconst (pc := 794) (cs := (c0, s0)) hX (dk D_L_law_12 2 rfl) ?_
                                        refine r_iadd (pc := 795) (cs := (c0, s0)) hX (dk D_L_law_12 3 rfl) ?_
                                        obtain ⟨x137, hx137, h⟩ := bd_some h
                                        refine r_sls (pc := 796) (cs := (c0, s0)) hX hsc (R32_w _) hx137 (dk D_L_law_12 4 rfl) (fun qx137 => ?_)
                                        obtain ⟨_, hi, h⟩ := bd_some h
                                        obtain ⟨x138, μ139, hx138, h⟩ := bd2_some h
                                        refine r_invV0 (As := [(0, x135), (0, x136), (0, x137)]) (pc := 797) (cs := (c0, s0)) hX ml_L_85 (L_M_judge qx135 qx136 qx137 hx138) (isk_u hi) (Rm_law hRm (by decide) ⟨by (try dsimp only); omega, by (try dsimp only); omega⟩) (by decide) rfl (Nat.le_of_ble_eq_true rfl) rfl (dk D_L_law_12 5 rfl) (fun qx138 => ?_)
                                        refine r_icmp_eq (pc := 800) (cs := (c0, s0)) hX qx133 qx138 1760 rfl (dk D_L_law_12 6 rfl) (fun hc => ?_) (fun hc => ?_)
                                        · rw [if_pos hc] at h
                                          refine r_iinc (lv' := [(3, 0, (w32 (v3 + 6))), (0, 2, -100), (1, 2, v1), (2, 2, v2)]) (pc := 1760) (cs := (c0, s0)) hX 3 rfl (by decide) rfl (dk D_L_law_31 30 rfl) ?_
                                          refine r_goto (pc := 1763) (cs := (c0, s0)) hX 18 rfl (dk D_L_law_31 31 rfl) ?_
                                          refine r_sub (lv' := [(0, 2, -100), (1, 2, v1), (2, 2, v2), (3, 0, (w32 (v3 + 6)))]) [1, 2, 3, 0] rfl ?_
                                          exact ih (-100) v1 v2 (w32 (v3 + 6)) μ139 c0 s0 (by omega) rfl (R32_w _) h
                                        · rw [if_neg hc] at h
                                          refine r_iconst (pc := 803) (cs := (c0, s0)) hX (dk D_L_law_12 7 rfl) ?_
                                          cases h
                                      · rw [if_neg hc16] at h
                                        by_cases hc17 : (and32 x1 63) = 17
                                        · rw [if_pos hc17] at h
                                          refine r_table (pc := 33) (cs := (c0, s0)) hX (by rw [hc17]; exact R32_lit rfl) 805 (dk D_L_law_0 21 rfl) (by omega) (by omega) (by rw [hc17]; rfl) rfl ?_
                                          refine r_aloadn (pc := 805) (cs := (c0, s0)) hX 1 rfl (dk D_L_law_12 9 rfl) ?_
                                          refine r_aloadn (pc := 806) (cs := (c0, s0)) hX 0 rfl (dk D_L_law_12 10 rfl) ?_
                                          refine r_iloadn (pc := 807) (cs := (c0, s0)) hX 3 rfl (dk D_L_law_12 11 rfl) ?_
                                          refine r_iconst (pc := 808) (cs := (c0, s0)) hX (dk D_L_law_12 12 rfl) ?_
                                          refine r_iadd (pc := 809) (cs := (c0, s0)) hX (dk D_L_law_12 13 rfl) ?_
                                          obtain ⟨x140, hx140, h⟩ := bd_some h
                                          refine r_sls (pc := 810) (cs := (c0, s0)) hX hsc (R32_w _) hx140 (dk D_L_law_12 14 rfl) (fun qx140 => ?_)
                                          refine r_aloadn (pc := 811) (cs := (c0, s0)) hX 0 rfl (dk D_L_law_12 15 rfl) ?_
                                          refine r_iloadn (pc := 812) (cs := (c0, s0)) hX 3 rfl (dk D_L_law_12 16 rfl) ?_
                                          refine r_iconst (pc := 813) (cs := (c0, s0)) hX (dk D_L_law_12 17 rfl) ?_
                                          refine r_iadd (pc := 814) (cs := (c0, s0)) hX (dk D_L_law_12 18 rfl) ?_
                                          obtain ⟨x141, hx141, h⟩ := bd_some h
                                          refine r_sls (pc := 815) (cs := (c0, s0)) hX hsc (R32_w _) hx141 (dk D_L_law_12 19 rfl) (fun qx141 => ?_)
                                          obtain ⟨_, hi, h⟩ := bd_some h
                                          obtain ⟨x142, μ143, hx142, h⟩ := bd2_some h
                                          refine r_invV0 (As := [(0, x140), (0, x141)]) (pc := 816) (cs := (c0, s0)) hX ml_L_86 (L_T_perform qx140 qx141 hx142) (isk_u hi) (Rm_law hRm (by decide) ⟨by (try dsimp only); omega, by (try dsimp only); omega⟩) (by decide) rfl (Nat.le_of_ble_eq_true rfl) rfl (dk D_L_law_12 20 rfl) (fun qx142 => ?_)
                                          refine r_aloadn (pc := 819) (cs := (c0, s0)) hX 2 rfl (dk D_L_law_12 21 rfl) ?_
                                          refine r_aloadn (pc := 820) (cs := (c0, s0)) hX 0 rfl (dk D_L_law_12 22 rfl) ?_
                                          refine r_iloadn (pc := 821) (cs := (c0, s0)) hX 3 rfl (dk D_L_law_12 23 rfl) ?_
                                          refine r_iconst (pc := 822) (cs := (c0, s0)) hX (dk D_L_law_12 24 rfl) ?_
                                          refine r_iadd (pc := 823) (cs := (c0, s0)) hX (dk D_L_law_12 25 rfl) ?_
                                          obtain ⟨x144, hx144, h⟩ := bd_some h
                                          refine r_sls (pc := 824) (cs := (c0, s0)) hX hsc (R32_w _) hx144 (dk D_L_law_12 26 rfl) (fun qx144 => ?_)
                                          refine r_aloadn (pc := 825) (cs := (c0, s0)) hX 0 rfl (dk D_L_law_12 27 rfl) ?_
                                          refine r_iloadn (pc := 826) (cs := (c0, s0)) hX 3 rfl (dk D_L_law_12 28 rfl) ?_
                                          refine r_iconst (pc := 827) (cs := (c0, s0)) hX (dk D_L_law_12 29 rfl) ?_
                                          refine r_iadd (pc := 828) (cs := (c0, s0)) hX (dk D_L_law_12 30 rfl) ?_
                                          obtain ⟨x145, hx145, h⟩ := bd_some h
                                          refine r_sls (pc := 829) (cs := (c0, s0)) hX hsc (R32_w _) hx145 (dk D_L_law_12 31 rfl) (fun qx145 => ?_)
                                          obtain ⟨_, hi, h⟩ := bd_some h
                                          obtain ⟨x146, μ147, hx146, h⟩ := bd2_some h
                                          refine r_invV0 (As := [(0, x144), (0, x145)]) (pc := 830) (cs := (c0, s0)) hX ml_L_89 (L_M_perform qx144 qx145 hx146) (isk_u hi) (Rm_law hRm (by decide) ⟨by (try dsimp only); omega, by (try dsimp only); omega⟩) (by decide) rfl (Nat.le_of_ble_eq_true rfl) rfl (dk D_L_law_12 32 rfl) (fun qx146 => ?_)
                                          refine r_icmp_eq (pc := 833) (cs := (c0, s0)) hX qx142 qx146 1760 rfl (dk D_L_law_12 33 rfl) (fun hc => ?_) (fun hc => ?_)
                                          · rw [if_pos hc] at h
                                            refine r_iinc (lv' := [(3, 0, (w32 (v3 + 6))), (0, 2, -100), (1, 2, v1), (2, 2, v2)]) (pc := 1760) (cs := (c0, s0)) hX 3 rfl (by decide) rfl (dk D_L_law_31 30 rfl) ?_
                                            refine r_goto (pc := 1763) (cs := (c0, s0)) hX 18 rfl (dk D_L_law_31 31 rfl) ?_
                                            refine r_sub (lv' := [(0, 2, -100), (1, 2, v1), (2, 2, v2), (3, 0, (w32 (v3 + 6)))]) [1, 2, 3, 0] rfl ?_
                                            exact ih (-100) v1 v2 (w32 (v3 + 6)) μ147 c0 s0 (by omega) rfl (R32_w _) h
                                          · rw [if_neg hc] at h
                                            refine r_iconst (pc := 836) (cs := (c0, s0)) hX (dk D_L_law_12 34 rfl) ?_
                                            cases h
                                        · rw [if_neg hc17] at h
                                          by_cases hc18 : (and32 x1 63) = 18
                                          · rw [if_pos hc18] at h
                                            refine r_table (pc := 33) (cs := (c0, s0)) hX (by rw [hc18]; exact R32_lit rfl) 838 (dk D_L_law_0 21 rfl) (by omega) (by omega) (by rw [hc18]; rfl) rfl ?_
                                            refine r_aloadn (pc := 838) (cs := (c0, s0)) hX 1 rfl (dk D_L_law_12 36 rfl) ?_
                                            refine r_aloadn (pc := 839) (cs := (c0, s0)) hX 0 rfl (dk D_L_law_12 37 rfl) ?_
                                            refine r_iloadn (pc := 840) (cs := (c0, s0)) hX 3 rfl (dk D_L_law_12 38 rfl) ?_
                                            refine r_iconst (pc := 841) (cs := (c0, s0)) hX (dk D_L_law_12 39 rfl) ?_
                                            refine r_iadd (pc := 842) (cs := (c0, s0)) hX (dk D_L_law_13 0 rfl) ?_
                                            obtain ⟨x148, hx148, h⟩ := bd_some h
                                            refine r_sls (pc := 843) (cs := (c0, s0)) hX hsc (R32_w _) hx148 (dk D_L_law_13 1 rfl) (fun qx148 => ?_)
                                            obtain ⟨_, hi, h⟩ := bd_some h
                                            obtain ⟨x149, μ150, hx149, h⟩ := bd2_some h
                                            refine r_invV0 (As := [(0, x148)]) (pc := 844) (cs := (c0, s0)) hX ml_L_90 (L_T_treasury qx148 hx149) (isk_u hi) (Rm_law hRm (by decide) ⟨by (try dsimp only); omega, by (try dsimp only); omega⟩) (by decide) rfl (Nat.le_of_ble_eq_true rfl) rfl (dk D_L_law_13 2 rfl) (fun qx149 => ?_)
                                            refine r_aloadn (pc := 847) (cs := (c0, s0)) hX 2 rfl (dk D_L_law_13 3 rfl) ?_
                                            refine r_aloadn (pc := 848) (cs := (c0, s0)) hX 0 rfl (dk D_L_law_13 4 rfl) ?_
                                            refine r_iloadn (pc := 849) (cs := (c0, s0)) hX 3 rfl (dk D_L_law_13 5 rfl) ?_
                                            refine r_iconst (pc := 850) (cs := (c0, s0)) hX (dk D_L_law_13 6 rfl) ?_
                                            refine r_iadd (pc := 851) (cs := (c0, s0)) hX (dk D_L_law_13 7 rfl) ?_
                                            obtain ⟨x151, hx151, h⟩ := bd_some h
                                            refine r_sls (pc := 852) (cs := (c0, s0)) hX hsc (R32_w _) hx151 (dk D_L_law_13 8 rfl) (fun qx151 => ?_)
                                            obtain ⟨_, hi, h⟩ := bd_some h
                                            obtain ⟨x152, μ153, hx152, h⟩ := bd2_some h
                                            refine r_invV0 (As := [(0, x151)]) (pc := 853) (cs := (c0, s0)) hX ml_L_93 (L_M_treasury qx151 hx152) (isk_u hi) (Rm_law hRm (by decide) ⟨by (try dsimp only); omega, by (try dsimp only); omega⟩) (by decide) rfl (Nat.le_of_ble_eq_true rfl) rfl (dk D_L_law_13 9 rfl) (fun qx152 => ?_)
                                            refine r_icmp_eq (pc := 856) (cs := (c0, s0)) hX qx149 qx152 1760 rfl (dk D_L_law_13 10 rfl) (fun hc => ?_) (fun hc => ?_)
                                            · rw [if_pos hc] at h
                                              refine r_iinc (lv' := [(3, 0, (w32 (v3 + 6))), (0, 2, -100), (1, 2, v1), (2, 2, v2)]) (pc := 1760) (cs := (c0, s0)) hX 3 rfl (by decide) rfl (dk D_L_law_31 30 rfl) ?_
                                              refine r_goto (pc := 1763) (cs := (c0, s0)) hX 18 rfl (dk D_L_law_31 31 rfl) ?_
                                              refine r_sub (lv' := [(0, 2, -100), (1, 2, v1), (2, 2, v2), (3, 0, (w32 (v3 + 6)))]) [1, 2, 3, 0] rfl ?_
                                              exact ih (-100) v1 v2 (w32 (v3 + 6)) μ153 c0 s0 (by omega) rfl (R32_w _) h
                                            · rw [if_neg hc] at h
                                              refine r_iconst (pc := 859) (cs := (c0, s0)) hX (dk D_L_law_13 11 rfl) ?_
                                              cases h
                                          · rw [if_neg hc18] at h
                                            by_cases hc19 : (and32 x1 63) = 19
                                            · rw [if_pos hc19] at h
                                              refine r_table (pc := 33) (cs := (c0, s0)) hX (by rw [hc19]; exact R32_lit rfl) 861 (dk D_L_law_0 21 rfl) (by omega) (by omega) (by rw [hc19]; rfl) rfl ?_
                                              refine r_aloadn (pc := 861) (cs := (c0, s0)) hX 1 rfl (dk D_L_law_13 13 rfl) ?_
                                              refine r_aloadn (pc := 862) (cs := (c0, s0)) hX 0 rfl (dk D_L_law_13 14 rfl) ?_
                                              refine r_iloadn (pc := 863) (cs := (c0, s0)) hX 3 rfl (dk D_L_law_13 15 rfl) ?_
                                              refine r_iconst (pc := 864) (cs := (c0, s0)) hX (dk D_L_law_13 16 rfl) ?_
                                              refine r_iadd (pc := 865) (cs := (c0, s0)) hX (dk D_L_law_13 17 rfl) ?_
                                              obtain ⟨x154, hx154, h⟩ := bd_some h
                                              refine r_sls (pc := 866) (cs := (c0, s0)) hX hsc (R32_w _) hx154 (dk D_L_law_13 18 rfl) (fun qx154 => ?_)
                                              obtain ⟨_, hi, h⟩ := bd_some h
                                              obtain ⟨x155, μ156, hx155, h⟩ := bd2_some h
                                              refine r_invV0 (As := [(0, x154)]) (pc := 867) (cs := (c0, s0)) hX ml_L_94 (L_T_owes qx154 hx155) (isk_u hi) (Rm_law hRm (by decide) ⟨by (try dsimp only); omega, by (try dsimp only); omega⟩) (by decide) rfl (Nat.le_of_ble_eq_true rfl) rfl (dk D_L_law_13 19 rfl) (fun qx155 => ?_)
                                              refine r_aloadn (pc := 870) (cs := (c0, s0)) hX 2 rfl (dk D_L_law_13 20 rfl) ?_
                                              refine r_aloadn (pc := 871) (cs := (c0, s0)) hX 0 rfl (dk D_L_law_13 21 rfl) ?_
                                              refine r_iloadn (pc := 872) (cs := (c0, s0)) hX 3 rfl (dk D_L_law_13 22 rfl) ?_
                                              refine r_iconst (pc := 873) (cs := (c0, s0)) hX (dk D_L_law_13 23 rfl) ?_
                                              refine r_iadd (pc := 874) (cs := (c0, s0)) hX (dk D_L_law_13 24 rfl) ?_
                                              obtain ⟨x157, hx157, h⟩ := bd_some h
                                              refine r_sls (pc := 875) (cs := (c0, s0)) hX hsc (R32_w _) hx157 (dk D_L_law_13 25 rfl) (fun qx157 => ?_)
                                              obtain ⟨_, hi, h⟩ := bd_some h
                                              obtain ⟨x158, μ159, hx158, h⟩ := bd2_some h
                                              refine r_invV0 (As := [(0, x157)]) (pc := 876) (cs := (c0, s0)) hX ml_L_97 (L_M_owes qx157 hx158) (isk_u hi) (Rm_law hRm (by decide) ⟨by (try dsimp only); omega, by (try dsimp only); omega⟩) (by decide) rfl (Nat.le_of_ble_eq_true rfl) rfl (dk D_L_law_13 26 rfl) (fun qx158 => ?_)
                                              refine r_icmp_eq (pc := 879) (cs := (c0, s0)) hX qx155 qx158 1760 rfl (dk D_L_law_13 27 rfl) (fun hc => ?_) (fun hc => ?_)
                                              · rw [if_pos hc] at h
                                                refine r_iinc (lv' := [(3, 0, (w32 (v3 + 6))), (0, 2, -100), (1, 2, v1), (2, 2, v2)]) (pc := 1760) (cs := (c0, s0)) hX 3 rfl (by decide) rfl (dk D_L_law_31 30 rfl) ?_
                                                refine r_goto (pc := 1763) (cs := (c0, s0)) hX 18 rfl (dk D_L_law_31 31 rfl) ?_
                                                refine r_sub (lv' := [(0, 2, -100), (1, 2, v1), (2, 2, v2), (3, 0, (w32 (v3 + 6)))]) [1, 2, 3, 0] rfl ?_
                                                exact ih (-100) v1 v2 (w32 (v3 + 6)) μ159 c0 s0 (by omega) rfl (R32_w _) h
                                              · rw [if_neg hc] at h
                                                refine r_iconst (pc := 882) (cs := (c0, s0)) hX (dk D_L_law_13 28 rfl) ?_
                                                cases h
                                            · rw [if_neg hc19] at h
                                              by_cases hc20 : (and32 x1 63) = 20
                                              · rw [if_pos hc20] at h
                                                refine r_table (pc := 33) (cs := (c0, s0)) hX (by rw [hc20]; exact R32_lit rfl) 884 (dk D_L_law_0 21 rfl) (by omega) (by omega) (by rw [hc20]; rfl) rfl ?_
                                                refine r_aloadn (pc := 884) (cs := (c0, s0)) hX 1 rfl (dk D_L_law_13 30 rfl) ?_
                                                obtain ⟨_, hi, h⟩ := bd_some h
                                                obtain ⟨x160, μ161, hx160, h⟩ := bd2_some h
                                                refine r_invV0 (As := []) (pc := 885) (cs := (c0, s0)) hX ml_L_98 (L_T_lapse hx160) (isk_u hi) (Rm_law hRm (by decide) ⟨by (try dsimp only); omega, by (try dsimp only); omega⟩) (by decide) rfl (Nat.le_of_ble_eq_true rfl) rfl (dk D_L_law_13 31 rfl) (fun qx160 => ?_)
                                                refine r_aloadn (pc := 888) (cs := (c0, s0)) hX 2 rfl (dk D_L_law_13 32 rfl) ?_
                                                obtain ⟨_, hi, h⟩ := bd_some h
                                                obtain ⟨x162, μ163, hx162, h⟩ := bd2_some h
                                                refine r_invV0 (As := []) (pc := 889) (cs := (c0, s0)) hX ml_L_102 (L_M_lapse hx162) (isk_u hi) (Rm_law hRm (by decide) ⟨by (try dsimp only); omega, by (try dsimp only); omega⟩) (by decide) rfl (Nat.le_of_ble_eq_true rfl) rfl (dk D_L_law_13 33 rfl) (fun qx162 => ?_)
                                                refine r_icmp_eq (pc := 892) (cs := (c0, s0)) hX qx160 qx162 1760 rfl (dk D_L_law_13 34 rfl) (fun hc => ?_) (fun hc => ?_)
                                                · rw [if_pos hc] at h
                                                  refine r_iinc (lv' := [(3, 0, (w32 (v3 + 6))), (0, 2, -100), (1, 2, v1), (2, 2, v2)]) (pc := 1760) (cs := (c0, s0)) hX 3 rfl (by decide) rfl (dk D_L_law_31 30 rfl) ?_
                                                  refine r_goto (pc := 1763) (cs := (c0, s0)) hX 18 rfl (dk D_L_law_31 31 rfl) ?_
                                                  refine r_sub (lv' := [(0, 2, -100), (1, 2, v1), (2, 2, v2), (3, 0, (w32 (v3 + 6)))]) [1, 2, 3, 0] rfl ?_
                                                  exact ih (-100) v1 v2 (w32 (v3 + 6)) μ163 c0 s0 (by omega) rfl (R32_w _) h
                                                · rw [if_neg hc] at h
                                                  refine r_iconst (pc := 895) (cs := (c0, s0)) hX (dk D_L_law_13 35 rfl) ?_
                                                  cases h
                                              · rw [if_neg hc20] at h
                                                by_cases hc21 : (and32 x1 63) = 21
                                                · rw [if_pos hc21] at h
                                                  refine r_table (pc := 33) (cs := (c0, s0)) hX (by rw [hc21]; exact R32_lit rfl) 897 (dk D_L_law_0 21 rfl) (by omega) (by omega) (by rw [hc21]; rfl) rfl ?_
                                                  refine r_aloadn (pc := 897) (cs := (c0, s0)) hX 1 rfl (dk D_L_law_13 37 rfl) ?_
                                                  refine r_aloadn (pc := 898) (cs := (c0, s0)) hX 0 rfl (dk D_L_law_13 38 rfl) ?_
                                                  refine r_iloadn (pc := 899) (cs := (c0, s0)) hX 3 rfl (dk D_L_law_13 39 rfl) ?_
                                                  refine r_iconst (pc := 900) (cs := (c0, s0)) hX (dk D_L_law_14 0 rfl) ?_
                                                  refine r_iadd (pc := 901) (cs := (c0, s0)) hX (dk D_L_law_14 1 rfl) ?_
                                                  obtain ⟨x164, hx164, h⟩ := bd_some h
                                                  refine r_sls (pc := 902) (cs := (c0, s0)) hX hsc (R32_w _) hx164 (dk D_L_law_14 2 rfl) (fun qx164 => ?_)
                                                  obtain ⟨_, hi, h⟩ := bd_some h
                                                  obtain ⟨x165, μ166, hx165, h⟩ := bd2_some h
                                                  refine r_invV0 (As := [(0, x164)]) (pc := 903) (cs := (c0, s0)) hX ml_L_103 (L_T_blocked qx164 hx165) (isk_u hi) (Rm_law hRm (by decide) ⟨by (try dsimp only); omega, by (try dsimp only); omega⟩) (by decide) rfl (Nat.le_of_ble_eq_true rfl) rfl (dk D_L_law_14 3 rfl) (fun qx165 => ?_)
                                                  refine r_aloadn (pc := 906) (cs := (c0, s0)) hX 2 rfl (dk D_L_law_14 4 rfl) ?_
                                                  refine r_aloadn (pc := 907) (cs := (c0, s0)) hX 0 rfl (dk D_L_law_14 5 rfl) ?_
                                                  refine r_iloadn (pc := 908) (cs := (c0, s0)) hX 3 rfl (dk D_L_law_14 6 rfl) ?_
                                                  refine r_iconst (pc := 909) (cs := (c0, s0)) hX (dk D_L_law_14 7 rfl) ?_
                                                  refine r_iadd (pc := 910) (cs := (c0, s0)) hX (dk D_L_law_14 8 rfl) ?_
                                                  obtain ⟨x167, hx167, h⟩ := bd_some h
                                                  refine r_sls (pc := 911) (cs := (c0, s0)) hX hsc (R32_w _) hx167 (dk D_L_law_14 9 rfl) (fun qx167 => ?_)
                                                  obtain ⟨_, hi, h⟩ := bd_some h
                                                  obtain ⟨x168, μ169, hx168, h⟩ := bd2_some h
                                                  refine r_invV0 (As := [(0, x167)]) (pc := 912) (cs := (c0, s0)) hX ml_L_106 (L_M_blocked qx167 hx168) (isk_u hi) (Rm_law hRm (by decide) ⟨by (try dsimp only); omega, by (try dsimp only); omega⟩) (by decide) rfl (Nat.le_of_ble_eq_true rfl) rfl (dk D_L_law_14 10 rfl) (fun qx168 => ?_)
                                                  refine r_icmp_eq (pc := 915) (cs := (c0, s0)) hX qx165 qx168 1760 rfl (dk D_L_law_14 11 rfl) (fun hc => ?_) (fun hc => ?_)
                                                  · rw [if_pos hc] at h
                                                    refine r_iinc (lv' := [(3, 0, (w32 (v3 + 6))), (0, 2, -100), (1, 2, v1), (2, 2, v2)]) (pc := 1760) (cs := (c0, s0)) hX 3 rfl (by decide) rfl (dk D_L_law_31 30 rfl) ?_
                                                    refine r_goto (pc := 1763) (cs := (c0, s0)) hX 18 rfl (dk D_L_law_31 31 rfl) ?_
                                                    refine r_sub (lv' := [(0, 2, -100), (1, 2, v1), (2, 2, v2), (3, 0, (w32 (v3 + 6)))]) [1, 2, 3, 0] rfl ?_
                                                    exact ih (-100) v1 v2 (w32 (v3 + 6)) μ169 c0 s0 (by omega) rfl (R32_w _) h
                                                  · rw [if_neg hc] at h
                                                    refine r_iconst (pc := 918) (cs := (c0, s0)) hX (dk D_L_law_14 12 rfl) ?_
                                                    cases h
                                                · rw [if_neg hc21] at h
                                                  by_cases hc22 : (and32 x1 63) = 22
                                                  · rw [if_pos hc22] at h
                                                    refine r_table (pc := 33) (cs := (c0, s0)) hX (by rw [hc22]; exact R32_lit rfl) 920 (dk D_L_law_0 21 rfl) (by omega) (by omega) (by rw [hc22]; rfl) rfl ?_
                                                    refine r_aloadn (pc := 920) (cs := (c0, s0)) hX 1 rfl (dk D_L_law_14 14 rfl) ?_
                                                    refine r_aloadn (pc := 921) (cs := (c0, s0)) hX 0 rfl (dk D_L_law_14 15 rfl) ?_
                                                    refine r_iloadn (pc := 922) (cs := (c0, s0)) hX 3 rfl (dk D_L_law_14 16 rfl) ?_
                                                    refine r_iconst (pc := 923) (cs := (c0, s0)) hX (dk D_L_law_14 17 rfl) ?_
                                                    refine r_iadd (pc := 924) (cs := (c0, s0)) hX (dk D_L_law_14 18 rfl) ?_
                                                    obtain ⟨x170, hx170, h⟩ := bd_some h
                                                    refine r_sls (pc := 925) (cs := (c0, s0)) hX hsc (R32_w _) hx170 (dk D_L_law_14 19 rfl) (fun qx170 => ?_)
                                                    refine r_aloadn (pc := 926) (cs := (c0, s0)) hX 0 rfl (dk D_L_law_14 20 rfl) ?_
                                                    refine r_iloadn (pc := 927) (cs := (c0, s0)) hX 3 rfl (dk D_L_law_14 21 rfl) ?_
                                                    refine r_iconst (pc := 928) (cs := (c0, s0)) hX (dk D_L_law_14 22 rfl) ?_
                                                    refine r_iadd (pc := 929) (cs := (c0, s0)) hX (dk D_L_law_14 23 rfl) ?_
                                                    obtain ⟨x171, hx171, h⟩ := bd_some h
                                                    refine r_sls (pc := 930) (cs := (c0, s0)) hX hsc (R32_w _) hx171 (dk D_L_law_14 24 rfl) (fun qx171 => ?_)
                                                    obtain ⟨_, hi, h⟩ := bd_some h
                                                    obtain ⟨x172, μ173, hx172, h⟩ := bd2_some h
                                                    refine r_invV0 (As := [(0, x170), (0, x171)]) (pc := 931) (cs := (c0, s0)) hX ml_L_107 (L_T_homeward qx170 qx171 hx172) (isk_u hi) (Rm_law hRm (by decide) ⟨by (try dsimp only); omega, by (try dsimp only); omega⟩) (by decide) rfl (Nat.le_of_ble_eq_true rfl) rfl (dk D_L_law_14 25 rfl) (fun qx172 => ?_)
                                                    refine r_aloadn (pc := 934) (cs := (c0, s0)) hX 2 rfl (dk D_L_law_14 26 rfl) ?_
                                                    refine r_aloadn (pc := 935) (cs := (c0, s0)) hX 0 rfl (dk D_L_law_14 27 rfl) ?_
                                                    refine r_iloadn (pc := 936) (cs := (c0, s0)) hX 3 rfl (dk D_L_law_14 28 rfl) ?_
                                                    refine r_iconst (pc := 937) (cs := (c0, s0)) hX (dk D_L_law_14 29 rfl) ?_
                                                    refine r_iadd (pc := 938) (cs := (c0, s0)) hX (dk D_L_law_14 30 rfl) ?_
                                                    obtain ⟨x174, hx174, h⟩ := bd_some h
                                                    refine r_sls (pc := 939) (cs := (c0, s0)) hX hsc (R32_w _) hx174 (dk D_L_law_14 31 rfl) (fun qx174 => ?_)
                                                    refine r_aloadn (pc := 940) (cs := (c0, s0)) hX 0 rfl (dk D_L_law_14 32 rfl) ?_
                                                    refine r_iloadn (pc := 941) (cs := (c0, s0)) hX 3 rfl (dk D_L_law_14 33 rfl) ?_
                                                    refine r_iconst (pc := 942) (cs := (c0, s0)) hX (dk D_L_law_14 34 rfl) ?_
                                                    refine r_iadd (pc := 943) (cs := (c0, s0)) hX (dk D_L_law_14 35 rfl) ?_
                                                    obtain ⟨x175, hx175, h⟩ := bd_some h
                                                    refine r_sls (pc := 944) (cs := (c0, s0)) hX hsc (R32_w _) hx175 (dk D_L_law_14 36 rfl) (fun qx175 => ?_)
                                                    obtain ⟨_, hi, h⟩ := bd_some h
                                                    obtain ⟨x176, μ177, hx176, h⟩ := bd2_some h
                                                    refine r_invV0 (As := [(0, x174), (0, x175)]) (pc := 945) (cs := (c0, s0)) hX ml_L_110 (L_M_homeward qx174 qx175 hx176) (isk_u hi) (Rm_law hRm (by decide) ⟨by (try dsimp only); omega, by (try dsimp only); omega⟩) (by decide) rfl (Nat.le_of_ble_eq_true rfl) rfl (dk D_L_law_14 37 rfl) (fun qx176 => ?_)
                                                    refine r_icmp_eq (pc := 948) (cs := (c0, s0)) hX qx172 qx176 1760 rfl (dk D_L_law_14 38 rfl) (fun hc => ?_) (fun hc => ?_)
                                                    · rw [if_pos hc] at h
                                                      refine r_iinc (lv' := [(3, 0, (w32 (v3 + 6))), (0, 2, -100), (1, 2, v1), (2, 2, v2)]) (pc := 1760) (cs := (c0, s0)) hX 3 rfl (by decide) rfl (dk D_L_law_31 30 rfl) ?_
                                                      refine r_goto (pc := 1763) (cs := (c0, s0)) hX 18 rfl (dk D_L_law_31 31 rfl) ?_
                                                      refine r_sub (lv' := [(0, 2, -100), (1, 2, v1), (2, 2, v2), (3, 0, (w32 (v3 + 6)))]) [1, 2, 3, 0] rfl ?_
                                                      exact ih (-100) v1 v2 (w32 (v3 + 6)) μ177 c0 s0 (by omega) rfl (R32_w _) h
                                                    · rw [if_neg hc] at h
                                                      refine r_iconst (pc := 951) (cs := (c0, s0)) hX (dk D_L_law_14 39 rfl) ?_
                                                      cases h
                                                  · rw [if_neg hc22] at h
                                                    by_cases hc23 : (and32 x1 63) = 23
                                                    · rw [if_pos hc23] at h
                                                      refine r_table (pc := 33) (cs := (c0, s0)) hX (by rw [hc23]; exact R32_lit rfl) 953 (dk D_L_law_0 21 rfl) (by omega) (by omega) (by rw [hc23]; rfl) rfl ?_
                                                      refine r_aloadn (pc := 953) (cs := (c0, s0)) hX 1 rfl (dk D_L_law_15 1 rfl) ?_
                                                      refine r_aloadn (pc := 954) (cs := (c0, s0)) hX 0 rfl (dk D_L_law_15 2 rfl) ?_
                                                      refine r_iloadn (pc := 955) (cs := (c0, s0)) hX 3 rfl (dk D_L_law_15 3 rfl) ?_
                                                      refine r_iconst (pc := 956) (cs := (c0, s0)) hX (dk D_L_law_15 4 rfl) ?_
                                                      refine r_iadd (pc := 957) (cs := (c0, s0)) hX (dk D_L_law_15 5 rfl) ?_
                                                      obtain ⟨x178, hx178, h⟩ := bd_some h
                                                      refine r_sls (pc := 958) (cs := (c0, s0)) hX hsc (R32_w _) hx178 (dk D_L_law_15 6 rfl) (fun qx178 => ?_)
                                                      obtain ⟨_, hi, h⟩ := bd_some h
                                                      obtain ⟨x179, μ180, hx179, h⟩ := bd2_some h
                                                      refine r_invV0 (As := [(0, x178)]) (pc := 959) (cs := (c0, s0)) hX ml_L_111 (L_T_safe qx178 hx179) (isk_u hi) (Rm_law hRm (by decide) ⟨by (try dsimp only); omega, by (try dsimp only); omega⟩) (by decide) rfl (Nat.le_of_ble_eq_true rfl) rfl (dk D_L_law_15 7 rfl) (fun qx179 => ?_)
                                                      refine r_aloadn (pc := 962) (cs := (c0, s0)) hX 2 rfl (dk D_L_law_15 8 rfl) ?_
                                                      refine r_aloadn (pc := 963) (cs := (c0, s0)) hX 0 rfl (dk D_L_law_15 9 rfl) ?_
                                                      refine r_iloadn (pc := 964) (cs := (c0, s0)) hX 3 rfl (dk D_L_law_15 10 rfl) ?_
                                                      refine r_iconst (pc := 965) (cs := (c0, s0)) hX (dk D_L_law_15 11 rfl) ?_
                                                      refine r_iadd (pc := 966) (cs := (c0, s0)) hX (dk D_L_law_15 12 rfl) ?_
                                                      obtain ⟨x181, hx181, h⟩ := bd_some h
                                                      refine r_sls (pc := 967) (cs := (c0, s0)) hX hsc (R32_w _) hx181 (dk D_L_law_15 13 rfl) (fun qx181 => ?_)
                                                      obtain ⟨_, hi, h⟩ := bd_some h
                                                      obtain ⟨x182, μ183, hx182, h⟩ := bd2_some h
                                                      refine r_invV0 (As := [(0, x181)]) (pc := 968) (cs := (c0, s0)) hX ml_L_114 (L_M_safe qx181 hx182) (isk_u hi) (Rm_law hRm (by decide) ⟨by (try dsimp only); omega, by (try dsimp only); omega⟩) (by decide) rfl (Nat.le_of_ble_eq_true rfl) rfl (dk D_L_law_15 14 rfl) (fun qx182 => ?_)
                                                      refine r_icmp_eq (pc := 971) (cs := (c0, s0)) hX qx179 qx182 1760 rfl (dk D_L_law_15 15 rfl) (fun hc => ?_) (fun hc => ?_)
                                                      · rw [if_pos hc] at h
                                                        refine r_iinc (lv' := [(3, 0, (w32 (v3 + 6))), (0, 2, -100), (1, 2, v1), (2, 2, v2)]) (pc := 1760) (cs := (c0, s0)) hX 3 rfl (by decide) rfl (dk D_L_law_31 30 rfl) ?_
                                                        refine r_goto (pc := 1763) (cs := (c0, s0)) hX 18 rfl (dk D_L_law_31 31 rfl) ?_
                                                        refine r_sub (lv' := [(0, 2, -100), (1, 2, v1), (2, 2, v2), (3, 0, (w32 (v3 + 6)))]) [1, 2, 3, 0] rfl ?_
                                                        exact ih (-100) v1 v2 (w32 (v3 + 6)) μ183 c0 s0 (by omega) rfl (R32_w _) h
                                                      · rw [if_neg hc] at h
                                                        refine r_iconst (pc := 974) (cs := (c0, s0)) hX (dk D_L_law_15 16 rfl) ?_
                                                        cases h
                                                    · rw [if_neg hc23] at h
                                                      by_cases hc24 : (and32 x1 63) = 24
                                                      · rw [if_pos hc24] at h
                                                        refine r_table (pc := 33) (cs := (c0, s0)) hX (by rw [hc24]; exact R32_lit rfl) 976 (dk D_L_law_0 21 rfl) (by omega) (by omega) (by rw [hc24]; rfl) rfl ?_
                                                        refine r_aloadn (pc := 976) (cs := (c0, s0)) hX 1 rfl (dk D_L_law_15 18 rfl) ?_
                                                        refine r_aloadn (pc := 977) (cs := (c0, s0)) hX 0 rfl (dk D_L_law_15 19 rfl) ?_
                                                        refine r_iloadn (pc := 978) (cs := (c0, s0)) hX 3 rfl (dk D_L_law_15 20 rfl) ?_
                                                        refine r_iconst (pc := 979) (cs := (c0, s0)) hX (dk D_L_law_15 21 rfl) ?_
                                                        refine r_iadd (pc := 980) (cs := (c0, s0)) hX (dk D_L_law_15 22 rfl) ?_
                                                        obtain ⟨x184, hx184, h⟩ := bd_some h
                                                        refine r_sls (pc := 981) (cs := (c0, s0)) hX hsc (R32_w _) hx184 (dk D_L_law_15 23 rfl) (fun qx184 => ?_)
                                                        refine r_aloadn (pc := 982) (cs := (c0, s0)) hX 0 rfl (dk D_L_law_15 24 rfl) ?_
                                                        refine r_iloadn (pc := 983) (cs := (c0, s0)) hX 3 rfl (dk D_L_law_15 25 rfl) ?_
                                                        refine r_iconst (pc := 984) (cs := (c0, s0)) hX (dk D_L_law_15 26 rfl) ?_
                                                        refine r_iadd (pc := 985) (cs := (c0, s0)) hX (dk D_L_law_15 27 rfl) ?_
                                                        obtain ⟨x185, hx185, h⟩ := bd_some h
                                                        refine r_sls (pc := 986) (cs := (c0, s0)) hX hsc (R32_w _) hx185 (dk D_L_law_15 28 rfl) (fun qx185 => ?_)
                                                        obtain ⟨_, hi, h⟩ := bd_some h
                                                        obtain ⟨x186, μ187, hx186, h⟩ := bd2_some h
                                                        refine r_invV0 (As := [(0, x184), (0, x185)]) (pc := 987) (cs := (c0, s0)) hX ml_L_115 (L_T_needs qx184 qx185 hx186) (isk_u hi) (Rm_law hRm (by decide) ⟨by (try dsimp only); omega, by (try dsimp only); omega⟩) (by decide) rfl (Nat.le_of_ble_eq_true rfl) rfl (dk D_L_law_15 29 rfl) (fun qx186 => ?_)
                                                        refine r_aloadn (pc := 990) (cs := (c0, s0)) hX 2 rfl (dk D_L_law_15 30 rfl) ?_
                                                        refine r_aloadn (pc := 991) (cs := (c0, s0)) hX 0 rfl (dk D_L_law_15 31 rfl) ?_
                                                        refine r_iloadn (pc := 992) (cs := (c0, s0)) hX 3 rfl (dk D_L_law_15 32 rfl) ?_
                                                        refine r_iconst (pc := 993) (cs := (c0, s0)) hX (dk D_L_law_15 33 rfl) ?_
                                                        refine r_iadd (pc := 994) (cs := (c0, s0)) hX (dk D_L_law_15 34 rfl) ?_
                                                        obtain ⟨x188, hx188, h⟩ := bd_some h
                                                        refine r_sls (pc := 995) (cs := (c0, s0)) hX hsc (R32_w _) hx188 (dk D_L_law_15 35 rfl) (fun qx188 => ?_)
                                                        refine r_aloadn (pc := 996) (cs := (c0, s0)) hX 0 rfl (dk D_L_law_15 36 rfl) ?_
                                                        refine r_iloadn (pc := 997) (cs := (c0, s0)) hX 3 rfl (dk D_L_law_15 37 rfl) ?_
                                                        refine r_iconst (pc := 998) (cs := (c0, s0)) hX (dk D_L_law_15 38 rfl) ?_
                                                        refine r_iadd (pc := 999) (cs := (c0, s0)) hX (dk D_L_law_15 39 rfl) ?_
                                                        obtain ⟨x189, hx189, h⟩ := bd_some h
                                                        refine r_sls (pc := 1000) (cs := (c0, s0)) hX hsc (R32_w _) hx189 (dk D_L_law_16 0 rfl) (fun qx189 => ?_)
                                                        obtain ⟨_, hi, h⟩ := bd_some h
                                                        obtain ⟨x190, μ191, hx190, h⟩ := bd2_some h
                                                        refine r_invV0 (As := [(0, x188), (0, x189)]) (pc := 1001) (cs := (c0, s0)) hX ml_L_118 (L_M_needs qx188 qx189 hx190) (isk_u hi) (Rm_law hRm (by decide) ⟨by (try dsimp only); omega, by (try dsimp only); omega⟩) (by decide) rfl (Nat.le_of_ble_eq_true rfl) rfl (dk D_L_law_16 1 rfl) (fun qx190 => ?_)
                                                        refine r_icmp_eq (pc := 1004) (cs := (c0, s0)) hX qx186 qx190 1760 rfl (dk D_L_law_16 2 rfl) (fun hc => ?_) (fun hc => ?_)
                                                        · rw [if_pos hc] at h
                                                          refine r_iinc (lv' := [(3, 0, (w32 (v3 + 6))), (0, 2, -100), (1, 2, v1), (2, 2, v2)]) (pc := 1760) (cs := (c0, s0)) hX 3 rfl (by decide) rfl (dk D_L_law_31 30 rfl) ?_
                                                          refine r_goto (pc := 1763) (cs := (c0, s0)) hX 18 rfl (dk D_L_law_31 31 rfl) ?_
                                                          refine r_sub (lv' := [(0, 2, -100), (1, 2, v1), (2, 2, v2), (3, 0, (w32 (v3 + 6)))]) [1, 2, 3, 0] rfl ?_
                                                          exact ih (-100) v1 v2 (w32 (v3 + 6)) μ191 c0 s0 (by omega) rfl (R32_w _) h
                                                        · rw [if_neg hc] at h
                                                          refine r_iconst (pc := 1007) (cs := (c0, s0)) hX (dk D_L_law_16 3 rfl) ?_
                                                          cases h
                                                      · rw [if_neg hc24] at h
                                                        by_cases hc25 : (and32 x1 63) = 25
                                                        · rw [if_pos hc25] at h
                                                          refine r_table (pc := 33) (cs := (c0, s0)) hX (by rw [hc25]; exact R32_lit rfl) 1009 (dk D_L_law_0 21 rfl) (by omega) (by omega) (by rw [hc25]; rfl) rfl ?_
                                                          refine r_aloadn (pc := 1009) (cs := (c0, s0)) hX 1 rfl (dk D_L_law_16 5 rfl) ?_
                                                          refine r_aloadn (pc := 1010) (cs := (c0, s0)) hX 0 rfl (dk D_L_law_16 6 rfl) ?_
                                                          refine r_iloadn (pc := 1011) (cs := (c0, s0)) hX 3 rfl (dk D_L_law_16 7 rfl) ?_
                                                          refine r_iconst (pc := 1012) (cs := (c0, s0)) hX (dk D_L_law_16 8 rfl) ?_
                                                          refine r_iadd (pc := 1013) (cs := (c0, s0)) hX (dk D_L_law_16 9 rfl) ?_
                                                          obtain ⟨x192, hx192, h⟩ := bd_some h
                                                          refine r_sls (pc := 1014) (cs := (c0, s0)) hX hsc (R32_w _) hx192 (dk D_L_law_16 10 rfl) (fun qx192 => ?_)
                                                          obtain ⟨_, hi, h⟩ := bd_some h
                                                          obtain ⟨x193, μ194, hx193, h⟩ := bd2_some h
                                                          refine r_invV0 (As := [(0, x192)]) (pc := 1015) (cs := (c0, s0)) hX ml_L_119 (L_T_partner qx192 hx193) (isk_u hi) (Rm_law hRm (by decide) ⟨by (try dsimp only); omega, by (try dsimp only); omega⟩) (by decide) rfl (Nat.le_of_ble_eq_true rfl) rfl (dk D_L_law_16 11 rfl) (fun qx193 => ?_)
                                                          refine r_aloadn (pc := 1018) (cs := (c0, s0)) hX 2 rfl (dk D_L_law_16 12 rfl) ?_
                                                          refine r_aloadn (pc := 1019) (cs := (c0, s0)) hX 0 rfl (dk D_L_law_16 13 rfl) ?_
                                                          refine r_iloadn (pc := 1020) (cs := (c0, s0)) hX 3 rfl (dk D_L_law_16 14 rfl) ?_
                                                          refine r_iconst (pc := 1021) (cs := (c0, s0)) hX (dk D_L_law_16 15 rfl) ?_
                                                          refine r_iadd (pc := 1022) (cs := (c0, s0)) hX (dk D_L_law_16 16 rfl) ?_
                                                          obtain ⟨x195, hx195, h⟩ := bd_some h
                                                          refine r_sls (pc := 1023) (cs := (c0, s0)) hX hsc (R32_w _) hx195 (dk D_L_law_16 17 rfl) (fun qx195 => ?_)
                                                          obtain ⟨_, hi, h⟩ := bd_some h
                                                          obtain ⟨x196, μ197, hx196, h⟩ := bd2_some h
                                                          refine r_invV0 (As := [(0, x195)]) (pc := 1024) (cs := (c0, s0)) hX ml_L_122 (L_M_partner qx195 hx196) (isk_u hi) (Rm_law hRm (by decide) ⟨by (try dsimp only); omega, by (try dsimp only); omega⟩) (by decide) rfl (Nat.le_of_ble_eq_true rfl) rfl (dk D_L_law_16 18 rfl) (fun qx196 => ?_)
                                                          refine r_icmp_eq (pc := 1027) (cs := (c0, s0)) hX qx193 qx196 1760 rfl (dk D_L_law_16 19 rfl) (fun hc => ?_) (fun hc => ?_)
                                                          · rw [if_pos hc] at h
                                                            refine r_iinc (lv' := [(3, 0, (w32 (v3 + 6))), (0, 2, -100), (1, 2, v1), (2, 2, v2)]) (pc := 1760) (cs := (c0, s0)) hX 3 rfl (by decide) rfl (dk D_L_law_31 30 rfl) ?_
                                                            refine r_goto (pc := 1763) (cs := (c0, s0)) hX 18 rfl (dk D_L_law_31 31 rfl) ?_
                                                            refine r_sub (lv' := [(0, 2, -100), (1, 2, v1), (2, 2, v2), (3, 0, (w32 (v3 + 6)))]) [1, 2, 3, 0] rfl ?_
                                                            exact ih (-100) v1 v2 (w32 (v3 + 6)) μ197 c0 s0 (by omega) rfl (R32_w _) h
                                                          · rw [if_neg hc] at h
                                                            refine r_iconst (pc := 1030) (cs := (c0, s0)) hX (dk D_L_law_16 20 rfl) ?_
                                                            cases h
                                                        · rw [if_neg hc25] at h
                                                          by_cases hc26 : (and32 x1 63) = 26
                                                          · rw [if_pos hc26] at h
                                                            refine r_table (pc := 33) (cs := (c0, s0)) hX (by rw [hc26]; exact R32_lit rfl) 1032 (dk D_L_law_0 21 rfl) (by omega) (by omega) (by rw [hc26]; rfl) rfl ?_
                                                            refine r_aloadn (pc := 1032) (cs := (c0, s0)) hX 1 rfl (dk D_L_law_16 22 rfl) ?_
                                                            refine r_aloadn (pc := 1033) (cs := (c0, s0)) hX 0 rfl (dk D_L_law_16 23 rfl) ?_
                                                            refine r_iloadn (pc := 1034) (cs := (c0, s0)) hX 3 rfl (dk D_L_law_16 24 rfl) ?_
                                                            refine r_iconst (pc := 1035) (cs := (c0, s0)) hX (dk D_L_law_16 25 rfl) ?_
                                                            refine r_iadd (pc := 1036) (cs := (c0, s0)) hX (dk D_L_law_16 26 rfl) ?_
                                                            obtain ⟨x198, hx198, h⟩ := bd_some h
                                                            refine r_sls (pc := 1037) (cs := (c0, s0)) hX hsc (R32_w _) hx198 (dk D_L_law_16 27 rfl) (fun qx198 => ?_)
                                                            refine r_aloadn (pc := 1038) (cs := (c0, s0)) hX 0 rfl (dk D_L_law_16 28 rfl) ?_
                                                            refine r_iloadn (pc := 1039) (cs := (c0, s0)) hX 3 rfl (dk D_L_law_16 29 rfl) ?_
                                                            refine r_iconst (pc := 1040) (cs := (c0, s0)) hX (dk D_L_law_16 30 rfl) ?_
                                                            refine r_iadd (pc := 1041) (cs := (c0, s0)) hX (dk D_L_law_16 31 rfl) ?_
                                                            obtain ⟨x199, hx199, h⟩ := bd_some h
                                                            refine r_sls (pc := 1042) (cs := (c0, s0)) hX hsc (R32_w _) hx199 (dk D_L_law_16 32 rfl) (fun qx199 => ?_)
                                                            obtain ⟨_, hi, h⟩ := bd_some h
                                                            obtain ⟨x200, μ201, hx200, h⟩ := bd2_some h
                                                            refine r_invV0 (As := [(0, x198), (0, x199)]) (pc := 1043) (cs := (c0, s0)) hX ml_L_123 (L_T_cheapest qx198 qx199 hx200) (isk_u hi) (Rm_law hRm (by decide) ⟨by (try dsimp only); omega, by (try dsimp only); omega⟩) (by decide) rfl (Nat.le_of_ble_eq_true rfl) rfl (dk D_L_law_16 33 rfl) (fun qx200 => ?_)
                                                            refine r_aloadn (pc := 1046) (cs := (c0, s0)) hX 2 rfl (dk D_L_law_16 34 rfl) ?_
                                                            refine r_aloadn (pc := 1047) (cs := (c0, s0)) hX 0 rfl (dk D_L_law_16 35 rfl) ?_
                                                            refine r_iloadn (pc := 1048) (cs := (c0, s0)) hX 3 rfl (dk D_L_law_16 36 rfl) ?_
                                                            refine r_iconst (pc := 1049) (cs := (c0, s0)) hX (dk D_L_law_16 37 rfl) ?_
                                                            refine r_iadd (pc := 1050) (cs := (c0, s0)) hX (dk D_L_law_16 38 rfl) ?_
                                                            obtain ⟨x202, hx202, h⟩ := bd_some h
                                                            refine r_sls (pc := 1051) (cs := (c0, s0)) hX hsc (R32_w _) hx202 (dk D_L_law_16 39 rfl) (fun qx202 => ?_)
                                                            refine r_aloadn (pc := 1052) (cs := (c0, s0)) hX 0 rfl (dk D_L_law_17 0 rfl) ?_
                                                            refine r_iloadn (pc := 1053) (cs := (c0, s0)) hX 3 rfl (dk D_L_law_17 1 rfl) ?_
                                                            refine r_iconst (pc := 1054) (cs := (c0, s0)) hX (dk D_L_law_17 2 rfl) ?_
                                                            refine r_iadd (pc := 1055) (cs := (c0, s0)) hX (dk D_L_law_17 3 rfl) ?_
                                                            obtain ⟨x203, hx203, h⟩ := bd_some h
                                                            refine r_sls (pc := 1056) (cs := (c0, s0)) hX hsc (R32_w _) hx203 (dk D_L_law_17 4 rfl) (fun qx203 => ?_)
                                                            obtain ⟨_, hi, h⟩ := bd_some h
                                                            obtain ⟨x204, μ205, hx204, h⟩ := bd2_some h
                                                            refine r_invV0 (As := [(0, x202), (0, x203)]) (pc := 1057) (cs := (c0, s0)) hX ml_L_126 (L_M_cheapest qx202 qx203 hx204) (isk_u hi) (Rm_law hRm (by decide) ⟨by (try dsimp only); omega, by (try dsimp only); omega⟩) (by decide) rfl (Nat.le_of_ble_eq_true rfl) rfl (dk D_L_law_17 5 rfl) (fun qx204 => ?_)
                                                            refine r_icmp_eq (pc := 1060) (cs := (c0, s0)) hX qx200 qx204 1760 rfl (dk D_L_law_17 6 rfl) (fun hc => ?_) (fun hc => ?_)
                                                            · rw [if_pos hc] at h
                                                              refine r_iinc (lv' := [(3, 0, (w32 (v3 + 6))), (0, 2, -100), (1, 2, v1), (2, 2, v2)]) (pc := 1760) (cs := (c0, s0)) hX 3 rfl (by decide) rfl (dk D_L_law_31 30 rfl) ?_
                                                              refine r_goto (pc := 1763) (cs := (c0, s0)) hX 18 rfl (dk D_L_law_31 31 rfl) ?_
                                                              refine r_sub (lv' := [(0, 2, -100), (1, 2, v1), (2, 2, v2), (3, 0, (w32 (v3 + 6)))]) [1, 2, 3, 0] rfl ?_
                                                              exact ih (-100) v1 v2 (w32 (v3 + 6)) μ205 c0 s0 (by omega) rfl (R32_w _) h
                                                            · rw [if_neg hc] at h
                                                              refine r_iconst (pc := 1063) (cs := (c0, s0)) hX (dk D_L_law_17 7 rfl) ?_
                                                              cases h
                                                          · rw [if_neg hc26] at h
                                                            by_cases hc27 : (and32 x1 63) = 27
                                                            · rw [if_pos hc27] at h
                                                              refine r_table (pc := 33) (cs := (c0, s0)) hX (by rw [hc27]; exact R32_lit rfl) 1065 (dk D_L_law_0 21 rfl) (by omega) (by omega) (by rw [hc27]; rfl) rfl ?_
                                                              refine r_aloadn (pc := 1065) (cs := (c0, s0)) hX 1 rfl (dk D_L_law_17 9 rfl) ?_
                                                              refine r_aloadn (pc := 1066) (cs := (c0, s0)) hX 0 rfl (dk D_L_law_17 10 rfl) ?_
                                                              refine r_iloadn (pc := 1067) (cs := (c0, s0)) hX 3 rfl (dk D_L_law_17 11 rfl) ?_
                                                              refine r_iconst (pc := 1068) (cs := (c0, s0)) hX (dk D_L_law_17 12 rfl) ?_
                                                              refine r_iadd (pc := 1069) (cs := (c0, s0)) hX (dk D_L_law_17 13 rfl) ?_
                                                              obtain ⟨x206, hx206, h⟩ := bd_some h
                                                              refine r_sls (pc := 1070) (cs := (c0, s0)) hX hsc (R32_w _) hx206 (dk D_L_law_17 14 rfl) (fun qx206 => ?_)
                                                              refine r_aloadn (pc := 1071) (cs := (c0, s0)) hX 0 rfl (dk D_L_law_17 15 rfl) ?_
                                                              refine r_iloadn (pc := 1072) (cs := (c0, s0)) hX 3 rfl (dk D_L_law_17 16 rfl) ?_
                                                              refine r_iconst (pc := 1073) (cs := (c0, s0)) hX (dk D_L_law_17 17 rfl) ?_
                                                              refine r_iadd (pc := 1074) (cs := (c0, s0)) hX (dk D_L_law_17 18 rfl) ?_
                                                              obtain ⟨x207, hx207, h⟩ := bd_some h
                                                              refine r_sls (pc := 1075) (cs := (c0, s0)) hX hsc (R32_w _) hx207 (dk D_L_law_17 19 rfl) (fun qx207 => ?_)
                                                              obtain ⟨_, hi, h⟩ := bd_some h
                                                              obtain ⟨x208, μ209, hx208, h⟩ := bd2_some h
                                                              refine r_invV0 (As := [(0, x206), (0, x207)]) (pc := 1076) (cs := (c0, s0)) hX ml_L_127 (L_T_price qx206 qx207 hx208) (isk_u hi) (Rm_law hRm (by decide) ⟨by (try dsimp only); omega, by (try dsimp only); omega⟩) (by decide) rfl (Nat.le_of_ble_eq_true rfl) rfl (dk D_L_law_17 20 rfl) (fun qx208 => ?_)
                                                              refine r_aloadn (pc := 1079) (cs := (c0, s0)) hX 2 rfl (dk D_L_law_17 21 rfl) ?_
                                                              refine r_aloadn (pc := 1080) (cs := (c0, s0)) hX 0 rfl (dk D_L_law_17 22 rfl) ?_
                                                              refine r_iloadn (pc := 1081) (cs := (c0, s0)) hX 3 rfl (dk D_L_law_17 23 rfl) ?_
                                                              refine r_iconst (pc := 1082) (cs := (c0, s0)) hX (dk D_L_law_17 24 rfl) ?_
                                                              refine r_iadd (pc := 1083) (cs := (c0, s0)) hX (dk D_L_law_17 25 rfl) ?_
                                                              obtain ⟨x210, hx210, h⟩ := bd_some h
                                                              refine r_sls (pc := 1084) (cs := (c0, s0)) hX hsc (R32_w _) hx210 (dk D_L_law_17 26 rfl) (fun qx210 => ?_)
                                                              refine r_aloadn (pc := 1085) (cs := (c0, s0)) hX 0 rfl (dk D_L_law_17 27 rfl) ?_
                                                              refine r_iloadn (pc := 1086) (cs := (c0, s0)) hX 3 rfl (dk D_L_law_17 28 rfl) ?_
                                                              refine r_iconst (pc := 1087) (cs := (c0, s0)) hX (dk D_L_law_17 29 rfl) ?_
                                                              refine r_iadd (pc := 1088) (cs := (c0, s0)) hX (dk D_L_law_17 30 rfl) ?_
                                                              obtain ⟨x211, hx211, h⟩ := bd_some h
                                                              refine r_sls (pc := 1089) (cs := (c0, s0)) hX hsc (R32_w _) hx211 (dk D_L_law_17 31 rfl) (fun qx211 => ?_)
                                                              obtain ⟨_, hi, h⟩ := bd_some h
                                                              obtain ⟨x212, μ213, hx212, h⟩ := bd2_some h
                                                              refine r_invV0 (As := [(0, x210), (0, x211)]) (pc := 1090) (cs := (c0, s0)) hX ml_L_130 (L_M_price qx210 qx211 hx212) (isk_u hi) (Rm_law hRm (by decide) ⟨by (try dsimp only); omega, by (try dsimp only); omega⟩) (by decide) rfl (Nat.le_of_ble_eq_true rfl) rfl (dk D_L_law_17 32 rfl) (fun qx212 => ?_)
                                                              refine r_icmp_eq (pc := 1093) (cs := (c0, s0)) hX qx208 qx212 1760 rfl (dk D_L_law_17 33 rfl) (fun hc => ?_) (fun hc => ?_)
                                                              · rw [if_pos hc] at h
                                                                refine r_iinc (lv' := [(3, 0, (w32 (v3 + 6))), (0, 2, -100), (1, 2, v1), (2, 2, v2)]) (pc := 1760) (cs := (c0, s0)) hX 3 rfl (by decide) rfl (dk D_L_law_31 30 rfl) ?_
                                                                refine r_goto (pc := 1763) (cs := (c0, s0)) hX 18 rfl (dk D_L_law_31 31 rfl) ?_
                                                                refine r_sub (lv' := [(0, 2, -100), (1, 2, v1), (2, 2, v2), (3, 0, (w32 (v3 + 6)))]) [1, 2, 3, 0] rfl ?_
                                                                exact ih (-100) v1 v2 (w32 (v3 + 6)) μ213 c0 s0 (by omega) rfl (R32_w _) h
                                                              · rw [if_neg hc] at h
                                                                refine r_iconst (pc := 1096) (cs := (c0, s0)) hX (dk D_L_law_17 34 rfl) ?_
                                                                cases h
                                                            · rw [if_neg hc27] at h
                                                              by_cases hc28 : (and32 x1 63) = 28
                                                              · rw [if_pos hc28] at h
                                                                refine r_table (pc := 33) (cs := (c0, s0)) hX (by rw [hc28]; exact R32_lit rfl) 1098 (dk D_L_law_0 21 rfl) (by omega) (by omega) (by rw [hc28]; rfl) rfl ?_
                                                                refine r_aloadn (pc := 1098) (cs := (c0, s0)) hX 1 rfl (dk D_L_law_17 36 rfl) ?_
                                                                refine r_aloadn (pc := 1099) (cs := (c0, s0)) hX 0 rfl (dk D_L_law_17 37 rfl) ?_
                                                                refine r_iloadn (pc := 1100) (cs := (c0, s0)) hX 3 rfl (dk D_L_law_17 38 rfl) ?_
                                                                refine r_iconst (pc := 1101) (cs := (c0, s0)) hX (dk D_L_law_17 39 rfl) ?_
                                                                refine r_iadd (pc := 1102) (cs := (c0, s0)) hX (dk D_L_law_18 0 rfl) ?_
                                                                obtain ⟨x214, hx214, h⟩ := bd_some h
                                                                refine r_sls (pc := 1103) (cs := (c0, s0)) hX hsc (R32_w _) hx214 (dk D_L_law_18 1 rfl) (fun qx214 => ?_)
                                                                refine r_aloadn (pc := 1104) (cs := (c0, s0)) hX 0 rfl (dk D_L_law_18 2 rfl) ?_
                                                                refine r_iloadn (pc := 1105) (cs := (c0, s0)) hX 3 rfl (dk D_L_law_18 3 rfl) ?_
                                                                refine r_iconst (pc := 1106) (cs := (c0, s0)) hX (dk D_L_law_18 4 rfl) ?_
                                                                refine r_iadd (pc := 1107) (cs := (c0, s0)) hX (dk D_L_law_18 5 rfl) ?_
                                                                obtain ⟨x215, hx215, h⟩ := bd_some h
                                                                refine r_sls (pc := 1108) (cs := (c0, s0)) hX hsc (R32_w _) hx215 (dk D_L_law_18 6 rfl) (fun qx215 => ?_)
                                                                refine r_aloadn (pc := 1109) (cs := (c0, s0)) hX 0 rfl (dk D_L_law_18 7 rfl) ?_
                                                                refine r_iloadn (pc := 1110) (cs := (c0, s0)) hX 3 rfl (dk D_L_law_18 8 rfl) ?_
                                                                refine r_iconst (pc := 1111) (cs := (c0, s0)) hX (dk D_L_law_18 9 rfl) ?_
                                                                refine r_iadd (pc := 1112) (cs := (c0, s0)) hX (dk D_L_law_18 10 rfl) ?_
                                                                obtain ⟨x216, hx216, h⟩ := bd_some h
                                                                refine r_sls (pc := 1113) (cs := (c0, s0)) hX hsc (R32_w _) hx216 (dk D_L_law_18 11 rfl) (fun qx216 => ?_)
                                                                obtain ⟨_, hi, h⟩ := bd_some h
                                                                obtain ⟨x217, μ218, hx217, h⟩ := bd2_some h
                                                                refine r_invV0 (As := [(0, x214), (0, x215), (0, x216)]) (pc := 1114) (cs := (c0, s0)) hX ml_L_131 (L_T_gain qx214 qx215 qx216 hx217) (isk_u hi) (Rm_law hRm (by decide) ⟨by (try dsimp only); omega, by (try dsimp only); omega⟩) (by decide) rfl (Nat.le_of_ble_eq_true rfl) rfl (dk D_L_law_18 12 rfl) (fun qx217 => ?_)
                                                                refine r_aloadn (pc := 1117) (cs := (c0, s0)) hX 2 rfl (dk D_L_law_18 13 rfl) ?_
                                                                refine r_aloadn (pc := 1118) (cs := (c0, s0)) hX 0 rfl (dk D_L_law_18 14 rfl) ?_
                                                                refine r_iloadn (pc := 1119) (cs := (c0, s0)) hX 3 rfl (dk D_L_law_18 15 rfl) ?_
                                                                refine r_iconst (pc := 1120) (cs := (c0, s0)) hX (dk D_L_law_18 16 rfl) ?_
                                                                refine r_iadd (pc := 1121) (cs := (c0, s0)) hX (dk D_L_law_18 17 rfl) ?_
                                                                obtain ⟨x219, hx219, h⟩ := bd_some h
                                                                refine r_sls (pc := 1122) (cs := (c0, s0)) hX hsc (R32_w _) hx219 (dk D_L_law_18 18 rfl) (fun qx219 => ?_)
                                                                refine r_aloadn (pc := 1123) (cs := (c0, s0)) hX 0 rfl (dk D_L_law_18 19 rfl) ?_
                                                                refine r_iloadn (pc := 1124) (cs := (c0, s0)) hX 3 rfl (dk D_L_law_18 20 rfl) ?_
                                                                refine r_iconst (pc := 1125) (cs := (c0, s0)) hX (dk D_L_law_18 21 rfl) ?_
                                                                refine r_iadd (pc := 1126) (cs := (c0, s0)) hX (dk D_L_law_18 22 rfl) ?_
                                                                obtain ⟨x220, hx220, h⟩ := bd_some h
                                                                refine r_sls (pc := 1127) (cs := (c0, s0)) hX hsc (R32_w _) hx220 (dk D_L_law_18 23 rfl) (fun qx220 => ?_)
                                                                refine r_aloadn (pc := 1128) (cs := (c0, s0)) hX 0 rfl (dk D_L_law_18 24 rfl) ?_
                                                                refine r_iloadn (pc := 1129) (cs := (c0, s0)) hX 3 rfl (dk D_L_law_18 25 rfl) ?_
                                                                refine r_iconst (pc := 1130) (cs := (c0, s0)) hX (dk D_L_law_18 26 rfl) ?_
                                                                refine r_iadd (pc := 1131) (cs := (c0, s0)) hX (dk D_L_law_18 27 rfl) ?_
                                                                obtain ⟨x221, hx221, h⟩ := bd_some h
                                                                refine r_sls (pc := 1132) (cs := (c0, s0)) hX hsc (R32_w _) hx221 (dk D_L_law_18 28 rfl) (fun qx221 => ?_)
                                                                obtain ⟨_, hi, h⟩ := bd_some h
                                                                obtain ⟨x222, μ223, hx222, h⟩ := bd2_some h
                                                                refine r_invV0 (As := [(0, x219), (0, x220), (0, x221)]) (pc := 1133) (cs := (c0, s0)) hX ml_L_134 (L_M_gain qx219 qx220 qx221 hx222) (isk_u hi) (Rm_law hRm (by decide) ⟨by (try dsimp only); omega, by (try dsimp only); omega⟩) (by decide) rfl (Nat.le_of_ble_eq_true rfl) rfl (dk D_L_law_18 29 rfl) (fun qx222 => ?_)
                                                                refine r_icmp_eq (pc := 1136) (cs := (c0, s0)) hX qx217 qx222 1760 rfl (dk D_L_law_18 30 rfl) (fun hc => ?_) (fun hc => ?_)
                                                                · rw [if_pos hc] at h
                                                                  refine r_iinc (lv' := [(3, 0, (w32 (v3 + 6))), (0, 2, -100), (1, 2, v1), (2, 2, v2)]) (pc := 1760) (cs := (c0, s0)) hX 3 rfl (by decide) rfl (dk D_L_law_31 30 rfl) ?_
                                                                  refine r_goto (pc := 1763) (cs := (c0, s0)) hX 18 rfl (dk D_L_law_31 31 rfl) ?_
                                                                  refine r_sub (lv' := [(0, 2, -100), (1, 2, v1), (2, 2, v2), (3, 0, (w32 (v3 + 6)))]) [1, 2, 3, 0] rfl ?_
                                                                  exact ih (-100) v1 v2 (w32 (v3 + 6)) μ223 c0 s0 (by omega) rfl (R32_w _) h
                                                                · rw [if_neg hc] at h
                                                                  refine r_iconst (pc := 1139) (cs := (c0, s0)) hX (dk D_L_law_18 31 rfl) ?_
                                                                  cases h
                                                              · rw [if_neg hc28] at h
                                                                by_cases hc29 : (and32 x1 63) = 29
                                                                · rw [if_pos hc29] at h
                                                                  refine r_table (pc := 33) (cs := (c0, s0)) hX (by rw [hc29]; exact R32_lit rfl) 1141 (dk D_L_law_0 21 rfl) (by omega) (by omega) (by rw [hc29]; rfl) rfl ?_
                                                                  refine r_aloadn (pc := 1141) (cs := (c0, s0)) hX 1 rfl (dk D_L_law_18 33 rfl) ?_
                                                                  refine r_aloadn (pc := 1142) (cs := (c0, s0)) hX 0 rfl (dk D_L_law_18 34 rfl) ?_
                                                                  refine r_iloadn (pc := 1143) (cs := (c0, s0)) hX 3 rfl (dk D_L_law_18 35 rfl) ?_
                                                                  refine r_iconst (pc := 1144) (cs := (c0, s0)) hX (dk D_L_law_18 36 rfl) ?_
                                                                  refine r_iadd (pc := 1145) (cs := (c0, s0)) hX (dk D_L_law_18 37 rfl) ?_
                                                                  obtain ⟨x224, hx224, h⟩ := bd_some h
                                                                  refine r_sls (pc := 1146) (cs := (c0, s0)) hX hsc (R32_w _) hx224 (dk D_L_law_18 38 rfl) (fun qx224 => ?_)
                                                                  refine r_aloadn (pc := 1147) (cs := (c0, s0)) hX 0 rfl (dk D_L_law_18 39 rfl) ?_
                                                                  refine r_iloadn (pc := 1148) (cs := (c0, s0)) hX 3 rfl (dk D_L_law_19 0 rfl) ?_
                                                                  refine r_iconst (pc := 1149) (cs := (c0, s0)) hX (dk D_L_law_19 1 rfl) ?_
                                                                  refine r_iadd (pc := 1150) (cs := (c0, s0)) hX (dk D_L_law_19 2 rfl) ?_
                                                                  obtain ⟨x225, hx225, h⟩ := bd_some h
                                                                  refine r_sls (pc := 1151) (cs := (c0, s0)) hX hsc (R32_w _) hx225 (dk D_L_law_19 3 rfl) (fun qx225 => ?_)
                                                                  refine r_aloadn (pc := 1152) (cs := (c0, s0)) hX 0 rfl (dk D_L_law_19 4 rfl) ?_
                                                                  refine r_iloadn (pc := 1153) (cs := (c0, s0)) hX 3 rfl (dk D_L_law_19 5 rfl) ?_
                                                                  refine r_iconst (pc := 1154) (cs := (c0, s0)) hX (dk D_L_law_19 6 rfl) ?_
                                                                  refine r_iadd (pc := 1155) (cs := (c0, s0)) hX (dk D_L_law_19 7 rfl) ?_
                                                                  obtain ⟨x226, hx226, h⟩ := bd_some h
                                                                  refine r_sls (pc := 1156) (cs := (c0, s0)) hX hsc (R32_w _) hx226 (dk D_L_law_19 8 rfl) (fun qx226 => ?_)
                                                                  refine r_aloadn (pc := 1157) (cs := (c0, s0)) hX 0 rfl (dk D_L_law_19 9 rfl) ?_
                                                                  refine r_iloadn (pc := 1158) (cs := (c0, s0)) hX 3 rfl (dk D_L_law_19 10 rfl) ?_
                                                                  refine r_iconst (pc := 1159) (cs := (c0, s0)) hX (dk D_L_law_19 11 rfl) ?_
                                                                  refine r_iadd (pc := 1160) (cs := (c0, s0)) hX (dk D_L_law_19 12 rfl) ?_
                                                                  obtain ⟨x227, hx227, h⟩ := bd_some h
                                                                  refine r_sls (pc := 1161) (cs := (c0, s0)) hX hsc (R32_w _) hx227 (dk D_L_law_19 13 rfl) (fun qx227 => ?_)
                                                                  obtain ⟨_, hi, h⟩ := bd_some h
                                                                  obtain ⟨x228, μ229, hx228, h⟩ := bd2_some h
                                                                  refine r_invV0 (As := [(0, x224), (0, x225), (0, x226), (0, x227)]) (pc := 1162) (cs := (c0, s0)) hX ml_L_135 (L_T_through qx224 qx225 qx226 qx227 hx228) (isk_u hi) (Rm_law hRm (by decide) ⟨by (try dsimp only); omega, by (try dsimp only); omega⟩) (by decide) rfl (Nat.le_of_ble_eq_true rfl) rfl (dk D_L_law_19 14 rfl) (fun qx228 => ?_)
                                                                  refine r_aloadn (pc := 1165) (cs := (c0, s0)) hX 2 rfl (dk D_L_law_19 15 rfl) ?_
                                                                  refine r_aloadn (pc := 1166) (cs := (c0, s0)) hX 0 rfl (dk D_L_law_19 16 rfl) ?_
                                                                  refine r_iloadn (pc := 1167) (cs := (c0, s0)) hX 3 rfl (dk D_L_law_19 17 rfl) ?_
                                                                  refine r_iconst (pc := 1168) (cs := (c0, s0)) hX (dk D_L_law_19 18 rfl) ?_
                                                                  refine r_iadd (pc := 1169) (cs := (c0, s0)) hX (dk D_L_law_19 19 rfl) ?_
                                                                  obtain ⟨x230, hx230, h⟩ := bd_some h
                                                                  refine r_sls (pc := 1170) (cs := (c0, s0)) hX hsc (R32_w _) hx230 (dk D_L_law_19 20 rfl) (fun qx230 => ?_)
                                                                  refine r_aloadn (pc := 1171) (cs := (c0, s0)) hX 0 rfl (dk D_L_law_19 21 rfl) ?_
                                                                  refine r_iloadn (pc := 1172) (cs := (c0, s0)) hX 3 rfl (dk D_L_law_19 22 rfl) ?_
                                                                  refine r_iconst (pc := 1173) (cs := (c0, s0)) hX (dk D_L_law_19 23 rfl) ?_
                                                                  refine r_iadd (pc := 1174) (cs := (c0, s0)) hX (dk D_L_law_19 24 rfl) ?_
                                                                  obtain ⟨x231, hx231, h⟩ := bd_some h
                                                                  refine r_sls (pc := 1175) (cs := (c0, s0)) hX hsc (R32_w _) hx231 (dk D_L_law_19 25 rfl) (fun qx231 => ?_)
                                                                  refine r_aloadn (pc := 1176) (cs := (c0, s0)) hX 0 rfl (dk D_L_law_19 26 rfl) ?_
                                                                  refine r_iloadn (pc := 1177) (cs := (c0, s0)) hX 3 rfl (dk D_L_law_19 27 rfl) ?_
                                                                  refine r_iconst (pc := 1178) (cs := (c0, s0)) hX (dk D_L_law_19 28 rfl) ?_
                                                                  refine r_iadd (pc := 1179) (cs := (c0, s0)) hX (dk D_L_law_19 29 rfl) ?_
                                                                  obtain ⟨x232, hx232, h⟩ := bd_some h
                                                                  refine r_sls (pc := 1180) (cs := (c0, s0)) hX hsc (R32_w _) hx232 (dk D_L_law_19 30 rfl) (fun qx232 => ?_)
                                                                  refine r_aloadn (pc := 1181) (cs := (c0, s0)) hX 0 rfl (dk D_L_law_19 31 rfl) ?_
                                                                  refine r_iloadn (pc := 1182) (cs := (c0, s0)) hX 3 rfl (dk D_L_law_19 32 rfl) ?_
                                                                  refine r_iconst (pc := 1183) (cs := (c0, s0)) hX (dk D_L_law_19 33 rfl) ?_
                                                                  refine r_iadd (pc := 1184) (cs := (c0, s0)) hX (dk D_L_law_19 34 rfl) ?_
                                                                  obtain ⟨x233, hx233, h⟩ := bd_some h
                                                                  refine r_sls (pc := 1185) (cs := (c0, s0)) hX hsc (R32_w _) hx233 (dk D_L_law_19 35 rfl) (fun qx233 => ?_)
                                                                  obtain ⟨_, hi, h⟩ := bd_some h
                                                                  obtain ⟨x234, μ235, hx234, h⟩ := bd2_some h
                                                                  refine r_invV0 (As := [(0, x230), (0, x231), (0, x232), (0, x233)]) (pc := 1186) (cs := (c0, s0)) hX ml_L_139 (L_M_through qx230 qx231 qx232 qx233 hx234) (isk_u hi) (Rm_law hRm (by decide) ⟨by (try dsimp only); omega, by (try dsimp only); omega⟩) (by decide) rfl (Nat.le_of_ble_eq_true rfl) rfl (dk D_L_law_19 36 rfl) (fun qx234 => ?_)
                                                                  refine r_icmp_eq (pc := 1189) (cs := (c0, s0)) hX qx228 qx234 1760 rfl (dk D_L_law_19 37 rfl) (fun hc => ?_) (fun hc => ?_)
                                                                  · rw [if_pos hc] at h
                                                                    refine r_iinc (lv' := [(3, 0, (w32 (v3 + 6))), (0, 2, -100), (1, 2, v1), (2, 2, v2)]) (pc := 1760) (cs := (c0, s0)) hX 3 rfl (by decide) rfl (dk D_L_law_31 30 rfl) ?_
                                                                    refine r_goto (pc := 1763) (cs := (c0, s0)) hX 18 rfl (dk D_L_law_31 31 rfl) ?_
                                                                    refine r_sub (lv' := [(0, 2, -100), (1, 2, v1), (2, 2, v2), (3, 0, (w32 (v3 + 6)))]) [1, 2, 3, 0] rfl ?_
                                                                    exact ih (-100) v1 v2 (w32 (v3 + 6)) μ235 c0 s0 (by omega) rfl (R32_w _) h
                                                                  · rw [if_neg hc] at h
                                                                    refine r_iconst (pc := 1192) (cs := (c0, s0)) hX (dk D_L_law_19 38 rfl) ?_
                                                                    cases h
                                                                · rw [if_neg hc29] at h
                                                                  by_cases hc30 : (and32 x1 63) = 30
                                                                  · rw [if_pos hc30] at h
                                                                    refine r_table (pc := 33) (cs := (c0, s0)) hX (by rw [hc30]; exact R32_lit rfl) 1194 (dk D_L_law_0 21 rfl) (by omega) (by omega) (by rw [hc30]; rfl) rfl ?_
                                                                    refine r_aloadn (pc := 1194) (cs := (c0, s0)) hX 1 rfl (dk D_L_law_20 0 rfl) ?_
                                                                    refine r_aloadn (pc := 1195) (cs := (c0, s0)) hX 0 rfl (dk D_L_law_20 1 rfl) ?_
                                                                    refine r_iloadn (pc := 1196) (cs := (c0, s0)) hX 3 rfl (dk D_L_law_20 2 rfl) ?_
                                                                    refine r_iconst (pc := 1197) (cs := (c0, s0)) hX (dk D_L_law_20 3 rfl) ?_
                                                                    refine r_iadd (pc := 1198) (cs := (c0, s0)) hX (dk D_L_law_20 4 rfl) ?_
                                                                    obtain ⟨x236, hx236, h⟩ := bd_some h
                                                                    refine r_sls (pc := 1199) (cs := (c0, s0)) hX hsc (R32_w _) hx236 (dk D_L_law_20 5 rfl) (fun qx236 => ?_)
                                                                    refine r_aloadn (pc := 1200) (cs := (c0, s0)) hX 0 rfl (dk D_L_law_20 6 rfl) ?_
                                                                    refine r_iloadn (pc := 1201) (cs := (c0, s0)) hX 3 rfl (dk D_L_law_20 7 rfl) ?_
                                                                    refine r_iconst (pc := 1202) (cs := (c0, s0)) hX (dk D_L_law_20 8 rfl) ?_
                                                                    refine r_iadd (pc := 1203) (cs := (c0, s0)) hX (dk D_L_law_20 9 rfl) ?_
                                                                    obtain ⟨x237, hx237, h⟩ := bd_some h
                                                                    refine r_sls (pc := 1204) (cs := (c0, s0)) hX hsc (R32_w _) hx237 (dk D_L_law_20 10 rfl) (fun qx237 => ?_)
                                                                    obtain ⟨_, hi, h⟩ := bd_some h
                                                                    obtain ⟨x238, μ239, hx238, h⟩ := bd2_some h
                                                                    refine r_invV0 (As := [(0, x236), (0, x237)]) (pc := 1205) (cs := (c0, s0)) hX ml_L_140 (L_T_journeys qx236 qx237 hx238) (isk_u hi) (Rm_law hRm (by decide) ⟨by (try dsimp only); omega, by (try dsimp only); omega⟩) (by decide) rfl (Nat.le_of_ble_eq_true rfl) rfl (dk D_L_law_20 11 rfl) (fun qx238 => ?_)
                                                                    refine r_aloadn (pc := 1208) (cs := (c0, s0)) hX 2 rfl (dk D_L_law_20 12 rfl) ?_
                                                                    refine r_aloadn (pc := 1209) (cs := (c0, s0)) hX 0 rfl (dk D_L_law_20 13 rfl) ?_
                                                                    refine r_iloadn (pc := 1210) (cs := (c0, s0)) hX 3 rfl (dk D_L_law_20 14 rfl) ?_
                                                                    refine r_iconst (pc := 1211) (cs := (c0, s0)) hX (dk D_L_law_20 15 rfl) ?_
                                                                    refine r_iadd (pc := 1212) (cs := (c0, s0)) hX (dk D_L_law_20 16 rfl) ?_
                                                                    obtain ⟨x240, hx240, h⟩ := bd_some h
                                                                    refine r_sls (pc := 1213) (cs := (c0, s0)) hX hsc (R32_w _) hx240 (dk D_L_law_20 17 rfl) (fun qx240 => ?_)
                                                                    refine r_aloadn (pc := 1214) (cs := (c0, s0)) hX 0 rfl (dk D_L_law_20 18 rfl) ?_
                                                                    refine r_iloadn (pc := 1215) (cs := (c0, s0)) hX 3 rfl (dk D_L_law_20 19 rfl) ?_
                                                                    refine r_iconst (pc := 1216) (cs := (c0, s0)) hX (dk D_L_law_20 20 rfl) ?_
                                                                    refine r_iadd (pc := 1217) (cs := (c0, s0)) hX (dk D_L_law_20 21 rfl) ?_
                                                                    obtain ⟨x241, hx241, h⟩ := bd_some h
                                                                    refine r_sls (pc := 1218) (cs := (c0, s0)) hX hsc (R32_w _) hx241 (dk D_L_law_20 22 rfl) (fun qx241 => ?_)
                                                                    obtain ⟨_, hi, h⟩ := bd_some h
                                                                    obtain ⟨x242, μ243, hx242, h⟩ := bd2_some h
                                                                    refine r_invV0 (As := [(0, x240), (0, x241)]) (pc := 1219) (cs := (c0, s0)) hX ml_L_143 (L_M_journeys qx240 qx241 hx242) (isk_u hi) (Rm_law hRm (by decide) ⟨by (try dsimp only); omega, by (try dsimp only); omega⟩) (by decide) rfl (Nat.le_of_ble_eq_true rfl) rfl (dk D_L_law_20 23 rfl) (fun qx242 => ?_)
                                                                    refine r_icmp_eq (pc := 1222) (cs := (c0, s0)) hX qx238 qx242 1760 rfl (dk D_L_law_20 24 rfl) (fun hc => ?_) (fun hc => ?_)
                                                                    · rw [if_pos hc] at h
                                                                      refine r_iinc (lv' := [(3, 0, (w32 (v3 + 6))), (0, 2, -100), (1, 2, v1), (2, 2, v2)]) (pc := 1760) (cs := (c0, s0)) hX 3 rfl (by decide) rfl (dk D_L_law_31 30 rfl) ?_
                                                                      refine r_goto (pc := 1763) (cs := (c0, s0)) hX 18 rfl (dk D_L_law_31 31 rfl) ?_
                                                                      refine r_sub (lv' := [(0, 2, -100), (1, 2, v1), (2, 2, v2), (3, 0, (w32 (v3 + 6)))]) [1, 2, 3, 0] rfl ?_
                                                                      exact ih (-100) v1 v2 (w32 (v3 + 6)) μ243 c0 s0 (by omega) rfl (R32_w _) h
                                                                    · rw [if_neg hc] at h
                                                                      refine r_iconst (pc := 1225) (cs := (c0, s0)) hX (dk D_L_law_20 25 rfl) ?_
                                                                      cases h
                                                                  · rw [if_neg hc30] at h
                                                                    by_cases hc31 : (and32 x1 63) = 31
                                                                    · rw [if_pos hc31] at h
                                                                      refine r_table (pc := 33) (cs := (c0, s0)) hX (by rw [hc31]; exact R32_lit rfl) 1227 (dk D_L_law_0 21 rfl) (by omega) (by omega) (by rw [hc31]; rfl) rfl ?_
                                                                      refine r_aloadn (pc := 1227) (cs := (c0, s0)) hX 1 rfl (dk D_L_law_20 27 rfl) ?_
                                                                      refine r_aloadn (pc := 1228) (cs := (c0, s0)) hX 0 rfl (dk D_L_law_20 28 rfl) ?_
                                                                      refine r_iloadn (pc := 1229) (cs := (c0, s0)) hX 3 rfl (dk D_L_law_20 29 rfl) ?_
                                                                      refine r_iconst (pc := 1230) (cs := (c0, s0)) hX (dk D_L_law_20 30 rfl) ?_
                                                                      refine r_iadd (pc := 1231) (cs := (c0, s0)) hX (dk D_L_law_20 31 rfl) ?_
                                                                      obtain ⟨x244, hx244, h⟩ := bd_some h
                                                                      refine r_sls (pc := 1232) (cs := (c0, s0)) hX hsc (R32_w _) hx244 (dk D_L_law_20 32 rfl) (fun qx244 => ?_)
                                                                      obtain ⟨_, hi, h⟩ := bd_some h
                                                                      obtain ⟨x245, μ246, hx245, h⟩ := bd2_some h
                                                                      refine r_invV0 (As := [(0, x244)]) (pc := 1233) (cs := (c0, s0)) hX ml_L_144 (L_T_forged qx244 hx245) (isk_u hi) (Rm_law hRm (by decide) ⟨by (try dsimp only); omega, by (try dsimp only); omega⟩) (by decide) rfl (Nat.le_of_ble_eq_true rfl) rfl (dk D_L_law_20 33 rfl) (fun qx245 => ?_)
                                                                      refine r_aloadn (pc := 1236) (cs := (c0, s0)) hX 2 rfl (dk D_L_law_20 34 rfl) ?_
                                                                      refine r_aloadn (pc := 1237) (cs := (c0, s0)) hX 0 rfl (dk D_L_law_20 35 rfl) ?_
                                                                      refine r_iloadn (pc := 1238) (cs := (c0, s0)) hX 3 rfl (dk D_L_law_20 36 rfl) ?_
                                                                      refine r_iconst (pc := 1239) (cs := (c0, s0)) hX (dk D_L_law_20 37 rfl) ?_
                                                                      refine r_iadd (pc := 1240) (cs := (c0, s0)) hX (dk D_L_law_20 38 rfl) ?_
                                                                      obtain ⟨x247, hx247, h⟩ := bd_some h
                                                                      refine r_sls (pc := 1241) (cs := (c0, s0)) hX hsc (R32_w _) hx247 (dk D_L_law_20 39 rfl) (fun qx247 => ?_)
                                                                      obtain ⟨_, hi, h⟩ := bd_some h
                                                                      obtain ⟨x248, μ249, hx248, h⟩ := bd2_some h
                                                                      refine r_invV0 (As := [(0, x247)]) (pc := 1242) (cs := (c0, s0)) hX ml_L_147 (L_M_forged qx247 hx248) (isk_u hi) (Rm_law hRm (by decide) ⟨by (try dsimp only); omega, by (try dsimp only); omega⟩) (by decide) rfl (Nat.le_of_ble_eq_true rfl) rfl (dk D_L_law_21 0 rfl) (fun qx248 => ?_)
                                                                      refine r_icmp_eq (pc := 1245) (cs := (c0, s0)) hX qx245 qx248 1760 rfl (dk D_L_law_21 1 rfl) (fun hc => ?_) (fun hc => ?_)
                                                                      · rw [if_pos hc] at h
                                                                        refine r_iinc (lv' := [(3, 0, (w32 (v3 + 6))), (0, 2, -100), (1, 2, v1), (2, 2, v2)]) (pc := 1760) (cs := (c0, s0)) hX 3 rfl (by decide) rfl (dk D_L_law_31 30 rfl) ?_
                                                                        refine r_goto (pc := 1763) (cs := (c0, s0)) hX 18 rfl (dk D_L_law_31 31 rfl) ?_
                                                                        refine r_sub (lv' := [(0, 2, -100), (1, 2, v1), (2, 2, v2), (3, 0, (w32 (v3 + 6)))]) [1, 2, 3, 0] rfl ?_
                                                                        exact ih (-100) v1 v2 (w32 (v3 + 6)) μ249 c0 s0 (by omega) rfl (R32_w _) h
                                                                      · rw [if_neg hc] at h
                                                                        refine r_iconst (pc := 1248) (cs := (c0, s0)) hX (dk D_L_law_21 2 rfl) ?_
                                                                        cases h
                                                                    · rw [if_neg hc31] at h
                                                                      by_cases hc32 : (and32 x1 63) = 32
                                                                      · rw [if_pos hc32] at h
                                                                        refine r_table (pc := 33) (cs := (c0, s0)) hX (by rw [hc32]; exact R32_lit rfl) 1250 (dk D_L_law_0 21 rfl) (by omega) (by omega) (by rw [hc32]; rfl) rfl ?_
                                                                        refine r_aloadn (pc := 1250) (cs := (c0, s0)) hX 1 rfl (dk D_L_law_21 4 rfl) ?_
                                                                        refine r_aloadn (pc := 1251) (cs := (c0, s0)) hX 0 rfl (dk D_L_law_21 5 rfl) ?_
                                                                        refine r_iloadn (pc := 1252) (cs := (c0, s0)) hX 3 rfl (dk D_L_law_21 6 rfl) ?_
                                                                        refine r_iconst (pc := 1253) (cs := (c0, s0)) hX (dk D_L_law_21 7 rfl) ?_
                                                                        refine r_iadd (pc := 1254) (cs := (c0, s0)) hX (dk D_L_law_21 8 rfl) ?_
                                                                        obtain ⟨x250, hx250, h⟩ := bd_some h
                                                                        refine r_sls (pc := 1255) (cs := (c0, s0)) hX hsc (R32_w _) hx250 (dk D_L_law_21 9 rfl) (fun qx250 => ?_)
                                                                        refine r_aloadn (pc := 1256) (cs := (c0, s0)) hX 0 rfl (dk D_L_law_21 10 rfl) ?_
                                                                        refine r_iloadn (pc := 1257) (cs := (c0, s0)) hX 3 rfl (dk D_L_law_21 11 rfl) ?_
                                                                        refine r_iconst (pc := 1258) (cs := (c0, s0)) hX (dk D_L_law_21 12 rfl) ?_
                                                                        refine r_iadd (pc := 1259) (cs := (c0, s0)) hX (dk D_L_law_21 13 rfl) ?_
                                                                        obtain ⟨x251, hx251, h⟩ := bd_some h
                                                                        refine r_sls (pc := 1260) (cs := (c0, s0)) hX hsc (R32_w _) hx251 (dk D_L_law_21 14 rfl) (fun qx251 => ?_)
                                                                        refine r_aloadn (pc := 1261) (cs := (c0, s0)) hX 0 rfl (dk D_L_law_21 15 rfl) ?_
                                                                        refine r_iloadn (pc := 1262) (cs := (c0, s0)) hX 3 rfl (dk D_L_law_21 16 rfl) ?_
                                                                        refine r_iconst (pc := 1263) (cs := (c0, s0)) hX (dk D_L_law_21 17 rfl) ?_
                                                                        refine r_iadd (pc := 1264) (cs := (c0, s0)) hX (dk D_L_law_21 18 rfl) ?_
                                                                        obtain ⟨x252, hx252, h⟩ := bd_some h
                                                                        refine r_sls (pc := 1265) (cs := (c0, s0)) hX hsc (R32_w _) hx252 (dk D_L_law_21 19 rfl) (fun qx252 => ?_)
                                                                        refine r_aloadn (pc := 1266) (cs := (c0, s0)) hX 0 rfl (dk D_L_law_21 20 rfl) ?_
                                                                        refine r_iloadn (pc := 1267) (cs := (c0, s0)) hX 3 rfl (dk D_L_law_21 21 rfl) ?_
                                                                        refine r_iconst (pc := 1268) (cs := (c0, s0)) hX (dk D_L_law_21 22 rfl) ?_
                                                                        refine r_iadd (pc := 1269) (cs := (c0, s0)) hX (dk D_L_law_21 23 rfl) ?_
                                                                        obtain ⟨x253, hx253, h⟩ := bd_some h
                                                                        refine r_sls (pc := 1270) (cs := (c0, s0)) hX hsc (R32_w _) hx253 (dk D_L_law_21 24 rfl) (fun qx253 => ?_)
                                                                        obtain ⟨_, hi, h⟩ := bd_some h
                                                                        obtain ⟨x254, μ255, hx254, h⟩ := bd2_some h
                                                                        refine r_invV0 (As := [(0, x250), (0, x251), (0, x252), (0, x253)]) (pc := 1271) (cs := (c0, s0)) hX ml_L_148 (L_T_journey qx250 qx251 qx252 qx253 hx254) (isk_u hi) (Rm_law hRm (by decide) ⟨by (try dsimp only); omega, by (try dsimp only); omega⟩) (by decide) rfl (Nat.le_of_ble_eq_true rfl) rfl (dk D_L_law_21 25 rfl) (fun qx254 => ?_)
                                                                        refine r_aloadn (pc := 1274) (cs := (c0, s0)) hX 2 rfl (dk D_L_law_21 26 rfl) ?_
                                                                        refine r_aloadn (pc := 1275) (cs := (c0, s0)) hX 0 rfl (dk D_L_law_21 27 rfl) ?_
                                                                        refine r_iloadn (pc := 1276) (cs := (c0, s0)) hX 3 rfl (dk D_L_law_21 28 rfl) ?_
                                                                        refine r_iconst (pc := 1277) (cs := (c0, s0)) hX (dk D_L_law_21 29 rfl) ?_
                                                                        refine r_iadd (pc := 1278) (cs := (c0, s0)) hX (dk D_L_law_21 30 rfl) ?_
                                                                        obtain ⟨x256, hx256, h⟩ := bd_some h
                                                                        refine r_sls (pc := 1279) (cs := (c0, s0)) hX hsc (R32_w _) hx256 (dk D_L_law_21 31 rfl) (fun qx256 => ?_)
                                                                        refine r_aloadn (pc := 1280) (cs := (c0, s0)) hX 0 rfl (dk D_L_law_21 32 rfl) ?_
                                                                        refine r_iloadn (pc := 1281) (cs := (c0, s0)) hX 3 rfl (dk D_L_law_21 33 rfl) ?_
                                                                        refine r_iconst (pc := 1282) (cs := (c0, s0)) hX (dk D_L_law_21 34 rfl) ?_
                                                                        refine r_iadd (pc := 1283) (cs := (c0, s0)) hX (dk D_L_law_21 35 rfl) ?_
                                                                        obtain ⟨x257, hx257, h⟩ := bd_some h
                                                                        refine r_sls (pc := 1284) (cs := (c0, s0)) hX hsc (R32_w _) hx257 (dk D_L_law_21 36 rfl) (fun qx257 => ?_)
                                                                        refine r_aloadn (pc := 1285) (cs := (c0, s0)) hX 0 rfl (dk D_L_law_21 37 rfl) ?_
                                                                        refine r_iloadn (pc := 1286) (cs := (c0, s0)) hX 3 rfl (dk D_L_law_21 38 rfl) ?_
                                                                        refine r_iconst (pc := 1287) (cs := (c0, s0)) hX (dk D_L_law_21 39 rfl) ?_
                                                                        refine r_iadd (pc := 1288) (cs := (c0, s0)) hX (dk D_L_law_22 0 rfl) ?_
                                                                        obtain ⟨x258, hx258, h⟩ := bd_some h
                                                                        refine r_sls (pc := 1289) (cs := (c0, s0)) hX hsc (R32_w _) hx258 (dk D_L_law_22 1 rfl) (fun qx258 => ?_)
                                                                        refine r_aloadn (pc := 1290) (cs := (c0, s0)) hX 0 rfl (dk D_L_law_22 2 rfl) ?_
                                                                        refine r_iloadn (pc := 1291) (cs := (c0, s0)) hX 3 rfl (dk D_L_law_22 3 rfl) ?_
                                                                        refine r_iconst (pc := 1292) (cs := (c0, s0)) hX (dk D_L_law_22 4 rfl) ?_
                                                                        refine r_iadd (pc := 1293) (cs := (c0, s0)) hX (dk D_L_law_22 5 rfl) ?_
                                                                        obtain ⟨x259, hx259, h⟩ := bd_some h
                                                                        refine r_sls (pc := 1294) (cs := (c0, s0)) hX hsc (R32_w _) hx259 (dk D_L_law_22 6 rfl) (fun qx259 => ?_)
                                                                        obtain ⟨_, hi, h⟩ := bd_some h
                                                                        obtain ⟨x260, μ261, hx260, h⟩ := bd2_some h
                                                                        refine r_invV0 (As := [(0, x256), (0, x257), (0, x258), (0, x259)]) (pc := 1295) (cs := (c0, s0)) hX ml_L_151 (L_M_journey qx256 qx257 qx258 qx259 hx260) (isk_u hi) (Rm_law hRm (by decide) ⟨by (try dsimp only); omega, by (try dsimp only); omega⟩) (by decide) rfl (Nat.le_of_ble_eq_true rfl) rfl (dk D_L_law_22 7 rfl) (fun qx260 => ?_)
                                                                        refine r_icmp_eq (pc := 1298) (cs := (c0, s0)) hX qx254 qx260 1760 rfl (dk D_L_law_22 8 rfl) (fun hc => ?_) (fun hc => ?_)
                                                                        · rw [if_pos hc] at h
                                                                          refine r_iinc (lv' := [(3, 0, (w32 (v3 + 6))), (0, 2, -100), (1, 2, v1), (2, 2, v2)]) (pc := 1760) (cs := (c0, s0)) hX 3 rfl (by decide) rfl (dk D_L_law_31 30 rfl) ?_
                                                                          refine r_goto (pc := 1763) (cs := (c0, s0)) hX 18 rfl (dk D_L_law_31 31 rfl) ?_
                                                                          refine r_sub (lv' := [(0, 2, -100), (1, 2, v1), (2, 2, v2), (3, 0, (w32 (v3 + 6)))]) [1, 2, 3, 0] rfl ?_
                                                                          exact ih (-100) v1 v2 (w32 (v3 + 6)) μ261 c0 s0 (by omega) rfl (R32_w _) h
                                                                        · rw [if_neg hc] at h
                                                                          refine r_iconst (pc := 1301) (cs := (c0, s0)) hX (dk D_L_law_22 9 rfl) ?_
                                                                          cases h
                                                                      · rw [if_neg hc32] at h
                                                                        by_cases hc33 : (and32 x1 63) = 33
                                                                        · rw [if_pos hc33] at h
                                                                          refine r_table (pc := 33) (cs := (c0, s0)) hX (by rw [hc33]; exact R32_lit rfl) 1303 (dk D_L_law_0 21 rfl) (by omega) (by omega) (by rw [hc33]; rfl) rfl ?_
                                                                          refine r_aloadn (pc := 1303) (cs := (c0, s0)) hX 1 rfl (dk D_L_law_22 11 rfl) ?_
                                                                          refine r_aloadn (pc := 1304) (cs := (c0, s0)) hX 0 rfl (dk D_L_law_22 12 rfl) ?_
                                                                          refine r_iloadn (pc := 1305) (cs := (c0, s0)) hX 3 rfl (dk D_L_law_22 13 rfl) ?_
                                                                          refine r_iconst (pc := 1306) (cs := (c0, s0)) hX (dk D_L_law_22 14 rfl) ?_
                                                                          refine r_iadd (pc := 1307) (cs := (c0, s0)) hX (dk D_L_law_22 15 rfl) ?_
                                                                          obtain ⟨x262, hx262, h⟩ := bd_some h
                                                                          refine r_sls (pc := 1308) (cs := (c0, s0)) hX hsc (R32_w _) hx262 (dk D_L_law_22 16 rfl) (fun qx262 => ?_)
                                                                          refine r_aloadn (pc := 1309) (cs := (c0, s0)) hX 0 rfl (dk D_L_law_22 17 rfl) ?_
                                                                          refine r_iloadn (pc := 1310) (cs := (c0, s0)) hX 3 rfl (dk D_L_law_22 18 rfl) ?_
                                                                          refine r_iconst (pc := 1311) (cs := (c0, s0)) hX (dk D_L_law_22 19 rfl) ?_
                                                                          refine r_iadd (pc := 1312) (cs := (c0, s0)) hX (dk D_L_law_22 20 rfl) ?_
                                                                          obtain ⟨x263, hx263, h⟩ := bd_some h
                                                                          refine r_sls (pc := 1313) (cs := (c0, s0)) hX hsc (R32_w _) hx263 (dk D_L_law_22 21 rfl) (fun qx263 => ?_)
                                                                          refine r_aloadn (pc := 1314) (cs := (c0, s0)) hX 0 rfl (dk D_L_law_22 22 rfl) ?_
                                                                          refine r_iloadn (pc := 1315) (cs := (c0, s0)) hX 3 rfl (dk D_L_law_22 23 rfl) ?_
                                                                          refine r_iconst (pc := 1316) (cs := (c0, s0)) hX (dk D_L_law_22 24 rfl) ?_
                                                                          refine r_iadd (pc := 1317) (cs := (c0, s0)) hX (dk D_L_law_22 25 rfl) ?_
                                                                          obtain ⟨x264, hx264, h⟩ := bd_some h
                                                                          refine r_sls (pc := 1318) (cs := (c0, s0)) hX hsc (R32_w _) hx264 (dk D_L_law_22 26 rfl) (fun qx264 => ?_)
                                                                          refine r_aloadn (pc := 1319) (cs := (c0, s0)) hX 0 rfl (dk D_L_law_22 27 rfl) ?_
                                                                          refine r_iloadn (pc := 1320) (cs := (c0, s0)) hX 3 rfl (dk D_L_law_22 28 rfl) ?_
                                                                          refine r_iconst (pc := 1321) (cs := (c0, s0)) hX (dk D_L_law_22 29 rfl) ?_
                                                                          refine r_iadd (pc := 1322) (cs := (c0, s0)) hX (dk D_L_law_22 30 rfl) ?_
                                                                          obtain ⟨x265, hx265, h⟩ := bd_some h
                                                                          refine r_sls (pc := 1323) (cs := (c0, s0)) hX hsc (R32_w _) hx265 (dk D_L_law_22 31 rfl) (fun qx265 => ?_)
                                                                          obtain ⟨_, hi, h⟩ := bd_some h
                                                                          obtain ⟨x266, μ267, hx266, h⟩ := bd2_some h
                                                                          refine r_invV0 (As := [(0, x262), (0, x263), (0, x264), (0, x265)]) (pc := 1324) (cs := (c0, s0)) hX ml_L_152 (L_T_lane qx262 qx263 qx264 qx265 hx266) (isk_u hi) (Rm_law hRm (by decide) ⟨by (try dsimp only); omega, by (try dsimp only); omega⟩) (by decide) rfl (Nat.le_of_ble_eq_true rfl) rfl (dk D_L_law_22 32 rfl) (fun qx266 => ?_)
                                                                          refine r_aloadn (pc := 1327) (cs := (c0, s0)) hX 2 rfl (dk D_L_law_22 33 rfl) ?_
                                                                          refine r_aloadn (pc := 1328) (cs := (c0, s0)) hX 0 rfl (dk D_L_law_22 34 rfl) ?_
                                                                          refine r_iloadn (pc := 1329) (cs := (c0, s0)) hX 3 rfl (dk D_L_law_22 35 rfl) ?_
                                                                          refine r_iconst (pc := 1330) (cs := (c0, s0)) hX (dk D_L_law_22 36 rfl) ?_
                                                                          refine r_iadd (pc := 1331) (cs := (c0, s0)) hX (dk D_L_law_22 37 rfl) ?_
                                                                          obtain ⟨x268, hx268, h⟩ := bd_some h
                                                                          refine r_sls (pc := 1332) (cs := (c0, s0)) hX hsc (R32_w _) hx268 (dk D_L_law_22 38 rfl) (fun qx268 => ?_)
                                                                          refine r_aloadn (pc := 1333) (cs := (c0, s0)) hX 0 rfl (dk D_L_law_22 39 rfl) ?_
                                                                          refine r_iloadn (pc := 1334) (cs := (c0, s0)) hX 3 rfl (dk D_L_law_23 0 rfl) ?_
                                                                          refine r_iconst (pc := 1335) (cs := (c0, s0)) hX (dk D_L_law_23 1 rfl) ?_
                                                                          refine r_iadd (pc := 1336) (cs := (c0, s0)) hX (dk D_L_law_23 2 rfl) ?_
                                                                          obtain ⟨x269, hx269, h⟩ := bd_some h
                                                                          refine r_sls (pc := 1337) (cs := (c0, s0)) hX hsc (R32_w _) hx269 (dk D_L_law_23 3 rfl) (fun qx269 => ?_)
                                                                          refine r_aloadn (pc := 1338) (cs := (c0, s0)) hX 0 rfl (dk D_L_law_23 4 rfl) ?_
                                                                          refine r_iloadn (pc := 1339) (cs := (c0, s0)) hX 3 rfl (dk D_L_law_23 5 rfl) ?_
                                                                          refine r_iconst (pc := 1340) (cs := (c0, s0)) hX (dk D_L_law_23 6 rfl) ?_
                                                                          refine r_iadd (pc := 1341) (cs := (c0, s0)) hX (dk D_L_law_23 7 rfl) ?_
                                                                          obtain ⟨x270, hx270, h⟩ := bd_some h
                                                                          refine r_sls (pc := 1342) (cs := (c0, s0)) hX hsc (R32_w _) hx270 (dk D_L_law_23 8 rfl) (fun qx270 => ?_)
                                                                          refine r_aloadn (pc := 1343) (cs := (c0, s0)) hX 0 rfl (dk D_L_law_23 9 rfl) ?_
                                                                          refine r_iloadn (pc := 1344) (cs := (c0, s0)) hX 3 rfl (dk D_L_law_23 10 rfl) ?_
                                                                          refine r_iconst (pc := 1345) (cs := (c0, s0)) hX (dk D_L_law_23 11 rfl) ?_
                                                                          refine r_iadd (pc := 1346) (cs := (c0, s0)) hX (dk D_L_law_23 12 rfl) ?_
                                                                          obtain ⟨x271, hx271, h⟩ := bd_some h
                                                                          refine r_sls (pc := 1347) (cs := (c0, s0)) hX hsc (R32_w _) hx271 (dk D_L_law_23 13 rfl) (fun qx271 => ?_)
                                                                          obtain ⟨_, hi, h⟩ := bd_some h
                                                                          obtain ⟨x272, μ273, hx272, h⟩ := bd2_some h
                                                                          refine r_invV0 (As := [(0, x268), (0, x269), (0, x270), (0, x271)]) (pc := 1348) (cs := (c0, s0)) hX ml_L_155 (L_M_lane qx268 qx269 qx270 qx271 hx272) (isk_u hi) (Rm_law hRm (by decide) ⟨by (try dsimp only); omega, by (try dsimp only); omega⟩) (by decide) rfl (Nat.le_of_ble_eq_true rfl) rfl (dk D_L_law_23 14 rfl) (fun qx272 => ?_)
                                                                          refine r_icmp_eq (pc := 1351) (cs := (c0, s0)) hX qx266 qx272 1760 rfl (dk D_L_law_23 15 rfl) (fun hc => ?_) (fun hc => ?_)
                                                                          · rw [if_pos hc] at h
                                                                            refine r_iinc (lv' := [(3, 0, (w32 (v3 + 6))), (0, 2, -100), (1, 2, v1), (2, 2, v2)]) (pc := 1760) (cs := (c0, s0)) hX 3 rfl (by decide) rfl (dk D_L_law_31 30 rfl) ?_
                                                                            refine r_goto (pc := 1763) (cs := (c0, s0)) hX 18 rfl (dk D_L_law_31 31 rfl) ?_
                                                                            refine r_sub (lv' := [(0, 2, -100), (1, 2, v1), (2, 2, v2), (3, 0, (w32 (v3 + 6)))]) [1, 2, 3, 0] rfl ?_
                                                                            exact ih (-100) v1 v2 (w32 (v3 + 6)) μ273 c0 s0 (by omega) rfl (R32_w _) h
                                                                          · rw [if_neg hc] at h
                                                                            refine r_iconst (pc := 1354) (cs := (c0, s0)) hX (dk D_L_law_23 16 rfl) ?_
                                                                            cases h
                                                                        · rw [if_neg hc33] at h
                                                                          by_cases hc34 : (and32 x1 63) = 34
                                                                          · rw [if_pos hc34] at h
                                                                            refine r_table (pc := 33) (cs := (c0, s0)) hX (by rw [hc34]; exact R32_lit rfl) 1356 (dk D_L_law_0 21 rfl) (by omega) (by omega) (by rw [hc34]; rfl) rfl ?_
                                                                            refine r_aloadn (pc := 1356) (cs := (c0, s0)) hX 1 rfl (dk D_L_law_23 18 rfl) ?_
                                                                            refine r_aloadn (pc := 1357) (cs := (c0, s0)) hX 0 rfl (dk D_L_law_23 19 rfl) ?_
                                                                            refine r_iloadn (pc := 1358) (cs := (c0, s0)) hX 3 rfl (dk D_L_law_23 20 rfl) ?_
                                                                            refine r_iconst (pc := 1359) (cs := (c0, s0)) hX (dk D_L_law_23 21 rfl) ?_
                                                                            refine r_iadd (pc := 1360) (cs := (c0, s0)) hX (dk D_L_law_23 22 rfl) ?_
                                                                            obtain ⟨x274, hx274, h⟩ := bd_some h
                                                                            refine r_sls (pc := 1361) (cs := (c0, s0)) hX hsc (R32_w _) hx274 (dk D_L_law_23 23 rfl) (fun qx274 => ?_)
                                                                            obtain ⟨_, hi, h⟩ := bd_some h
                                                                            obtain ⟨x275, μ276, hx275, h⟩ := bd2_some h
                                                                            refine r_invV0 (As := [(0, x274)]) (pc := 1362) (cs := (c0, s0)) hX ml_L_156 (L_T_box qx274 hx275) (isk_u hi) (Rm_law hRm (by decide) ⟨by (try dsimp only); omega, by (try dsimp only); omega⟩) (by decide) rfl (Nat.le_of_ble_eq_true rfl) rfl (dk D_L_law_23 24 rfl) (fun qx275 => ?_)
                                                                            refine r_aloadn (pc := 1365) (cs := (c0, s0)) hX 2 rfl (dk D_L_law_23 25 rfl) ?_
                                                                            refine r_aloadn (pc := 1366) (cs := (c0, s0)) hX 0 rfl (dk D_L_law_23 26 rfl) ?_
                                                                            refine r_iloadn (pc := 1367) (cs := (c0, s0)) hX 3 rfl (dk D_L_law_23 27 rfl) ?_
                                                                            refine r_iconst (pc := 1368) (cs := (c0, s0)) hX (dk D_L_law_23 28 rfl) ?_
                                                                            refine r_iadd (pc := 1369) (cs := (c0, s0)) hX (dk D_L_law_23 29 rfl) ?_
                                                                            obtain ⟨x277, hx277, h⟩ := bd_some h
                                                                            refine r_sls (pc := 1370) (cs := (c0, s0)) hX hsc (R32_w _) hx277 (dk D_L_law_23 30 rfl) (fun qx277 => ?_)
                                                                            obtain ⟨_, hi, h⟩ := bd_some h
                                                                            obtain ⟨x278, μ279, hx278, h⟩ := bd2_some h
                                                                            refine r_invV0 (As := [(0, x277)]) (pc := 1371) (cs := (c0, s0)) hX ml_L_159 (L_M_box qx277 hx278) (isk_u hi) (Rm_law hRm (by decide) ⟨by (try dsimp only); omega, by (try dsimp only); omega⟩) (by decide) rfl (Nat.le_of_ble_eq_true rfl) rfl (dk D_L_law_23 31 rfl) (fun qx278 => ?_)
                                                                            refine r_icmp_eq (pc := 1374) (cs := (c0, s0)) hX qx275 qx278 1760 rfl (dk D_L_law_23 32 rfl) (fun hc => ?_) (fun hc => ?_)
                                                                            · rw [if_pos hc] at h
                                                                              refine r_iinc (lv' := [(3, 0, (w32 (v3 + 6))), (0, 2, -100), (1, 2, v1), (2, 2, v2)]) (pc := 1760) (cs := (c0, s0)) hX 3 rfl (by decide) rfl (dk D_L_law_31 30 rfl) ?_
                                                                              refine r_goto (pc := 1763) (cs := (c0, s0)) hX 18 rfl (dk D_L_law_31 31 rfl) ?_
                                                                              refine r_sub (lv' := [(0, 2, -100), (1, 2, v1), (2, 2, v2), (3, 0, (w32 (v3 + 6)))]) [1, 2, 3, 0] rfl ?_
                                                                              exact ih (-100) v1 v2 (w32 (v3 + 6)) μ279 c0 s0 (by omega) rfl (R32_w _) h
                                                                            · rw [if_neg hc] at h
                                                                              refine r_iconst (pc := 1377) (cs := (c0, s0)) hX (dk D_L_law_23 33 rfl) ?_
                                                                              cases h
                                                                          · rw [if_neg hc34] at h
                                                                            by_cases hc35 : (and32 x1 63) = 35
                                                                            · rw [if_pos hc35] at h
                                                                              refine r_table (pc := 33) (cs := (c0, s0)) hX (by rw [hc35]; exact R32_lit rfl) 1379 (dk D_L_law_0 21 rfl) (by omega) (by omega) (by rw [hc35]; rfl) rfl ?_
                                                                              refine r_aloadn (pc := 1379) (cs := (c0, s0)) hX 1 rfl (dk D_L_law_23 35 rfl) ?_
                                                                              refine r_aloadn (pc := 1380) (cs := (c0, s0)) hX 0 rfl (dk D_L_law_23 36 rfl) ?_
                                                                              refine r_iloadn (pc := 1381) (cs := (c0, s0)) hX 3 rfl (dk D_L_law_23 37 rfl) ?_
                                                                              refine r_iconst (pc := 1382) (cs := (c0, s0)) hX (dk D_L_law_23 38 rfl) ?_
                                                                              refine r_iadd (pc := 1383) (cs := (c0, s0)) hX (dk D_L_law_23 39 rfl) ?_
                                                                              obtain ⟨x280, hx280, h⟩ := bd_some h
                                                                              refine r_sls (pc := 1384) (cs := (c0, s0)) hX hsc (R32_w _) hx280 (dk D_L_law_24 0 rfl) (fun qx280 => ?_)
                                                                              obtain ⟨_, hi, h⟩ := bd_some h
                                                                              obtain ⟨x281, μ282, hx281, h⟩ := bd2_some h
                                                                              refine r_invV0 (As := [(0, x280)]) (pc := 1385) (cs := (c0, s0)) hX ml_L_160 (L_T_cutOff qx280 hx281) (isk_u hi) (Rm_law hRm (by decide) ⟨by (try dsimp only); omega, by (try dsimp only); omega⟩) (by decide) rfl (Nat.le_of_ble_eq_true rfl) rfl (dk D_L_law_24 1 rfl) (fun qx281 => ?_)
                                                                              refine r_aloadn (pc := 1388) (cs := (c0, s0)) hX 2 rfl (dk D_L_law_24 2 rfl) ?_
                                                                              refine r_aloadn (pc := 1389) (cs := (c0, s0)) hX 0 rfl (dk D_L_law_24 3 rfl) ?_
                                                                              refine r_iloadn (pc := 1390) (cs := (c0, s0)) hX 3 rfl (dk D_L_law_24 4 rfl) ?_
                                                                              refine r_iconst (pc := 1391) (cs := (c0, s0)) hX (dk D_L_law_24 5 rfl) ?_
                                                                              refine r_iadd (pc := 1392) (cs := (c0, s0)) hX (dk D_L_law_24 6 rfl) ?_
                                                                              obtain ⟨x283, hx283, h⟩ := bd_some h
                                                                              refine r_sls (pc := 1393) (cs := (c0, s0)) hX hsc (R32_w _) hx283 (dk D_L_law_24 7 rfl) (fun qx283 => ?_)
                                                                              obtain ⟨_, hi, h⟩ := bd_some h
                                                                              obtain ⟨x284, μ285, hx284, h⟩ := bd2_some h
                                                                              refine r_invV0 (As := [(0, x283)]) (pc := 1394) (cs := (c0, s0)) hX ml_L_163 (L_M_cutOff qx283 hx284) (isk_u hi) (Rm_law hRm (by decide) ⟨by (try dsimp only); omega, by (try dsimp only); omega⟩) (by decide) rfl (Nat.le_of_ble_eq_true rfl) rfl (dk D_L_law_24 8 rfl) (fun qx284 => ?_)
                                                                              refine r_icmp_eq (pc := 1397) (cs := (c0, s0)) hX qx281 qx284 1760 rfl (dk D_L_law_24 9 rfl) (fun hc => ?_) (fun hc => ?_)
                                                                              · rw [if_pos hc] at h
                                                                                refine r_iinc (lv' := [(3, 0, (w32 (v3 + 6))), (0, 2, -100), (1, 2, v1), (2, 2, v2)]) (pc := 1760) (cs := (c0, s0)) hX 3 rfl (by decide) rfl (dk D_L_law_31 30 rfl) ?_
                                                                                refine r_goto (pc := 1763) (cs := (c0, s0)) hX 18 rfl (dk D_L_law_31 31 rfl) ?_
                                                                                refine r_sub (lv' := [(0, 2, -100), (1, 2, v1), (2, 2, v2), (3, 0, (w32 (v3 + 6)))]) [1, 2, 3, 0] rfl ?_
                                                                                exact ih (-100) v1 v2 (w32 (v3 + 6)) μ285 c0 s0 (by omega) rfl (R32_w _) h
                                                                              · rw [if_neg hc] at h
                                                                                refine r_iconst (pc := 1400) (cs := (c0, s0)) hX (dk D_L_law_24 10 rfl) ?_
                                                                                cases h
                                                                            · rw [if_neg hc35] at h
                                                                              by_cases hc36 : (and32 x1 63) = 36
                                                                              · rw [if_pos hc36] at h
                                                                                refine r_table (pc := 33) (cs := (c0, s0)) hX (by rw [hc36]; exact R32_lit rfl) 1402 (dk D_L_law_0 21 rfl) (by omega) (by omega) (by rw [hc36]; rfl) rfl ?_
                                                                                refine r_aloadn (pc := 1402) (cs := (c0, s0)) hX 1 rfl (dk D_L_law_24 12 rfl) ?_
                                                                                refine r_aloadn (pc := 1403) (cs := (c0, s0)) hX 0 rfl (dk D_L_law_24 13 rfl) ?_
                                                                                refine r_iloadn (pc := 1404) (cs := (c0, s0)) hX 3 rfl (dk D_L_law_24 14 rfl) ?_
                                                                                refine r_iconst (pc := 1405) (cs := (c0, s0)) hX (dk D_L_law_24 15 rfl) ?_
                                                                                refine r_iadd (pc := 1406) (cs := (c0, s0)) hX (dk D_L_law_24 16 rfl) ?_
                                                                                obtain ⟨x286, hx286, h⟩ := bd_some h
                                                                                refine r_sls (pc := 1407) (cs := (c0, s0)) hX hsc (R32_w _) hx286 (dk D_L_law_24 17 rfl) (fun qx286 => ?_)
                                                                                refine r_aloadn (pc := 1408) (cs := (c0, s0)) hX 0 rfl (dk D_L_law_24 18 rfl) ?_
                                                                                refine r_iloadn (pc := 1409) (cs := (c0, s0)) hX 3 rfl (dk D_L_law_24 19 rfl) ?_
                                                                                refine r_iconst (pc := 1410) (cs := (c0, s0)) hX (dk D_L_law_24 20 rfl) ?_
                                                                                refine r_iadd (pc := 1411) (cs := (c0, s0)) hX (dk D_L_law_24 21 rfl) ?_
                                                                                obtain ⟨x287, hx287, h⟩ := bd_some h
                                                                                refine r_sls (pc := 1412) (cs := (c0, s0)) hX hsc (R32_w _) hx287 (dk D_L_law_24 22 rfl) (fun qx287 => ?_)
                                                                                obtain ⟨_, hi, h⟩ := bd_some h
                                                                                obtain ⟨x288, μ289, hx288, h⟩ := bd2_some h
                                                                                refine r_invV0 (As := [(0, x286), (0, x287)]) (pc := 1413) (cs := (c0, s0)) hX ml_L_164 (L_T_ledger qx286 qx287 hx288) (isk_u hi) (Rm_law hRm (by decide) ⟨by (try dsimp only); omega, by (try dsimp only); omega⟩) (by decide) rfl (Nat.le_of_ble_eq_true rfl) rfl (dk D_L_law_24 23 rfl) (fun qx288 => ?_)
                                                                                refine r_aloadn (pc := 1416) (cs := (c0, s0)) hX 2 rfl (dk D_L_law_24 24 rfl) ?_
                                                                                refine r_aloadn (pc := 1417) (cs := (c0, s0)) hX 0 rfl (dk D_L_law_24 25 rfl) ?_
                                                                                refine r_iloadn (pc := 1418) (cs := (c0, s0)) hX 3 rfl (dk D_L_law_24 26 rfl) ?_
                                                                                refine r_iconst (pc := 1419) (cs := (c0, s0)) hX (dk D_L_law_24 27 rfl) ?_
                                                                                refine r_iadd (pc := 1420) (cs := (c0, s0)) hX (dk D_L_law_24 28 rfl) ?_
                                                                                obtain ⟨x290, hx290, h⟩ := bd_some h
                                                                                refine r_sls (pc := 1421) (cs := (c0, s0)) hX hsc (R32_w _) hx290 (dk D_L_law_24 29 rfl) (fun qx290 => ?_)
                                                                                refine r_aloadn (pc := 1422) (cs := (c0, s0)) hX 0 rfl (dk D_L_law_24 30 rfl) ?_
                                                                                refine r_iloadn (pc := 1423) (cs := (c0, s0)) hX 3 rfl (dk D_L_law_24 31 rfl) ?_
                                                                                refine r_iconst (pc := 1424) (cs := (c0, s0)) hX (dk D_L_law_24 32 rfl) ?_
                                                                                refine r_iadd (pc := 1425) (cs := (c0, s0)) hX (dk D_L_law_24 33 rfl) ?_
                                                                                obtain ⟨x291, hx291, h⟩ := bd_some h
                                                                                refine r_sls (pc := 1426) (cs := (c0, s0)) hX hsc (R32_w _) hx291 (dk D_L_law_24 34 rfl) (fun qx291 => ?_)
                                                                                obtain ⟨_, hi, h⟩ := bd_some h
                                                                                obtain ⟨x292, μ293, hx292, h⟩ := bd2_some h
                                                                                refine r_invV0 (As := [(0, x290), (0, x291)]) (pc := 1427) (cs := (c0, s0)) hX ml_L_167 (L_M_ledger qx290 qx291 hx292) (isk_u hi) (Rm_law hRm (by decide) ⟨by (try dsimp only); omega, by (try dsimp only); omega⟩) (by decide) rfl (Nat.le_of_ble_eq_true rfl) rfl (dk D_L_law_24 35 rfl) (fun qx292 => ?_)
                                                                                refine r_icmp_eq (pc := 1430) (cs := (c0, s0)) hX qx288 qx292 1760 rfl (dk D_L_law_24 36 rfl) (fun hc => ?_) (fun hc => ?_)
                                                                                · rw [if_pos hc] at h
                                                                                  refine r_iinc (lv' := [(3, 0, (w32 (v3 + 6))), (0, 2, -100), (1, 2, v1), (2, 2, v2)]) (pc := 1760) (cs := (c0, s0)) hX 3 rfl (by decide) rfl (dk D_L_law_31 30 rfl) ?_
                                                                                  refine r_goto (pc := 1763) (cs := (c0, s0)) hX 18 rfl (dk D_L_law_31 31 rfl) ?_
                                                                                  refine r_sub (lv' := [(0, 2, -100), (1, 2, v1), (2, 2, v2), (3, 0, (w32 (v3 + 6)))]) [1, 2, 3, 0] rfl ?_
                                                                                  exact ih (-100) v1 v2 (w32 (v3 + 6)) μ293 c0 s0 (by omega) rfl (R32_w _) h
                                                                                · rw [if_neg hc] at h
                                                                                  refine r_iconst (pc := 1433) (cs := (c0, s0)) hX (dk D_L_law_24 37 rfl) ?_
                                                                                  cases h
                                                                              · rw [if_neg hc36] at h
                                                                                by_cases hc37 : (and32 x1 63) = 37
                                                                                · rw [if_pos hc37] at h
                                                                                  refine r_table (pc := 33) (cs := (c0, s0)) hX (by rw [hc37]; exact R32_lit rfl) 1435 (dk D_L_law_0 21 rfl) (by omega) (by omega) (by rw [hc37]; rfl) rfl ?_
                                                                                  refine r_aloadn (pc := 1435) (cs := (c0, s0)) hX 1 rfl (dk D_L_law_24 39 rfl) ?_
                                                                                  refine r_aloadn (pc := 1436) (cs := (c0, s0)) hX 0 rfl (dk D_L_law_25 0 rfl) ?_
                                                                                  refine r_iloadn (pc := 1437) (cs := (c0, s0)) hX 3 rfl (dk D_L_law_25 1 rfl) ?_
                                                                                  refine r_iconst (pc := 1438) (cs := (c0, s0)) hX (dk D_L_law_25 2 rfl) ?_
                                                                                  refine r_iadd (pc := 1439) (cs := (c0, s0)) hX (dk D_L_law_25 3 rfl) ?_
                                                                                  obtain ⟨x294, hx294, h⟩ := bd_some h
                                                                                  refine r_sls (pc := 1440) (cs := (c0, s0)) hX hsc (R32_w _) hx294 (dk D_L_law_25 4 rfl) (fun qx294 => ?_)
                                                                                  refine r_aloadn (pc := 1441) (cs := (c0, s0)) hX 0 rfl (dk D_L_law_25 5 rfl) ?_
                                                                                  refine r_iloadn (pc := 1442) (cs := (c0, s0)) hX 3 rfl (dk D_L_law_25 6 rfl) ?_
                                                                                  refine r_iconst (pc := 1443) (cs := (c0, s0)) hX (dk D_L_law_25 7 rfl) ?_
                                                                                  refine r_iadd (pc := 1444) (cs := (c0, s0)) hX (dk D_L_law_25 8 rfl) ?_
                                                                                  obtain ⟨x295, hx295, h⟩ := bd_some h
                                                                                  refine r_sls (pc := 1445) (cs := (c0, s0)) hX hsc (R32_w _) hx295 (dk D_L_law_25 9 rfl) (fun qx295 => ?_)
                                                                                  refine r_aloadn (pc := 1446) (cs := (c0, s0)) hX 0 rfl (dk D_L_law_25 10 rfl) ?_
                                                                                  refine r_iloadn (pc := 1447) (cs := (c0, s0)) hX 3 rfl (dk D_L_law_25 11 rfl) ?_
                                                                                  refine r_iconst (pc := 1448) (cs := (c0, s0)) hX (dk D_L_law_25 12 rfl) ?_
                                                                                  refine r_iadd (pc := 1449) (cs := (c0, s0)) hX (dk D_L_law_25 13 rfl) ?_
                                                                                  obtain ⟨x296, hx296, h⟩ := bd_some h
                                                                                  refine r_sls (pc := 1450) (cs := (c0, s0)) hX hsc (R32_w _) hx296 (dk D_L_law_25 14 rfl) (fun qx296 => ?_)
                                                                                  refine r_aloadn (pc := 1451) (cs := (c0, s0)) hX 0 rfl (dk D_L_law_25 15 rfl) ?_
                                                                                  refine r_iloadn (pc := 1452) (cs := (c0, s0)) hX 3 rfl (dk D_L_law_25 16 rfl) ?_
                                                                                  refine r_iconst (pc := 1453) (cs := (c0, s0)) hX (dk D_L_law_25 17 rfl) ?_
                                                                                  refine r_iadd (pc := 1454) (cs := (c0, s0)) hX (dk D_L_law_25 18 rfl) ?_
                                                                                  obtain ⟨x297, hx297, h⟩ := bd_some h
                                                                                  refine r_sls (pc := 1455) (cs := (c0, s0)) hX hsc (R32_w _) hx297 (dk D_L_law_25 19 rfl) (fun qx297 => ?_)
                                                                                  refine r_aloadn (pc := 1456) (cs := (c0, s0)) hX 0 rfl (dk D_L_law_25 20 rfl) ?_
                                                                                  refine r_iloadn (pc := 1457) (cs := (c0, s0)) hX 3 rfl (dk D_L_law_25 21 rfl) ?_
                                                                                  refine r_iconst (pc := 1458) (cs := (c0, s0)) hX (dk D_L_law_25 22 rfl) ?_
                                                                                  refine r_iadd (pc := 1459) (cs := (c0, s0)) hX (dk D_L_law_25 23 rfl) ?_
                                                                                  obtain ⟨x298, hx298, h⟩ := bd_some h
                                                                                  refine r_sls (pc := 1460) (cs := (c0, s0)) hX hsc (R32_w _) hx298 (dk D_L_law_25 24 rfl) (fun qx298 => ?_)
                                                                                  obtain ⟨_, hi, h⟩ := bd_some h
                                                                                  obtain ⟨x299, μ300, hx299, h⟩ := bd2_some h
                                                                                  refine r_invV0 (As := [(0, x294), (0, x295), (0, x296), (0, x297), (0, x298)]) (pc := 1461) (cs := (c0, s0)) hX ml_L_168 (L_T_meet qx294 qx295 qx296 qx297 qx298 hx299) (isk_u hi) (Rm_law hRm (by decide) ⟨by (try dsimp only); omega, by (try dsimp only); omega⟩) (by decide) rfl (Nat.le_of_ble_eq_true rfl) rfl (dk D_L_law_25 25 rfl) (fun qx299 => ?_)
                                                                                  refine r_aloadn (pc := 1464) (cs := (c0, s0)) hX 2 rfl (dk D_L_law_25 26 rfl) ?_
                                                                                  refine r_aloadn (pc := 1465) (cs := (c0, s0)) hX 0 rfl (dk D_L_law_25 27 rfl) ?_
                                                                                  refine r_iloadn (pc := 1466) (cs := (c0, s0)) hX 3 rfl (dk D_L_law_25 28 rfl) ?_
                                                                                  refine r_iconst (pc := 1467) (cs := (c0, s0)) hX (dk D_L_law_25 29 rfl) ?_
                                                                                  refine r_iadd (pc := 1468) (cs := (c0, s0)) hX (dk D_L_law_25 30 rfl) ?_
                                                                                  obtain ⟨x301, hx301, h⟩ := bd_some h
                                                                                  refine r_sls (pc := 1469) (cs := (c0, s0)) hX hsc (R32_w _) hx301 (dk D_L_law_25 31 rfl) (fun qx301 => ?_)
                                                                                  refine r_aloadn (pc := 1470) (cs := (c0, s0)) hX 0 rfl (dk D_L_law_25 32 rfl) ?_
                                                                                  refine r_iloadn (pc := 1471) (cs := (c0, s0)) hX 3 rfl (dk D_L_law_25 33 rfl) ?_
                                                                                  refine r_iconst (pc := 1472) (cs := (c0, s0)) hX (dk D_L_law_25 34 rfl) ?_
                                                                                  refine r_iadd (pc := 1473) (cs := (c0, s0)) hX (dk D_L_law_25 35 rfl) ?_
                                                                                  obtain ⟨x302, hx302, h⟩ := bd_some h
                                                                                  refine r_sls (pc := 1474) (cs := (c0, s0)) hX hsc (R32_w _) hx302 (dk D_L_law_25 36 rfl) (fun qx302 => ?_)
                                                                                  refine r_aloadn (pc := 1475) (cs := (c0, s0)) hX 0 rfl (dk D_L_law_25 37 rfl) ?_
                                                                                  refine r_iloadn (pc := 1476) (cs := (c0, s0)) hX 3 rfl (dk D_L_law_25 38 rfl) ?_
                                                                                  refine r_iconst (pc := 1477) (cs := (c0, s0)) hX (dk D_L_law_25 39 rfl) ?_
                                                                                  refine r_iadd (pc := 1478) (cs := (c0, s0)) hX (dk D_L_law_26 0 rfl) ?_
                                                                                  obtain ⟨x303, hx303, h⟩ := bd_some h
                                                                                  refine r_sls (pc := 1479) (cs := (c0, s0)) hX hsc (R32_w _) hx303 (dk D_L_law_26 1 rfl) (fun qx303 => ?_)
                                                                                  refine r_aloadn (pc := 1480) (cs := (c0, s0)) hX 0 rfl (dk D_L_law_26 2 rfl) ?_
                                                                                  refine r_iloadn (pc := 1481) (cs := (c0, s0)) hX 3 rfl (dk D_L_law_26 3 rfl) ?_
                                                                                  refine r_iconst (pc := 1482) (cs := (c0, s0)) hX (dk D_L_law_26 4 rfl) ?_
                                                                                  refine r_iadd (pc := 1483) (cs := (c0, s0)) hX (dk D_L_law_26 5 rfl) ?_
                                                                                  obtain ⟨x304, hx304, h⟩ := bd_some h
                                                                                  refine r_sls (pc := 1484) (cs := (c0, s0)) hX hsc (R32_w _) hx304 (dk D_L_law_26 6 rfl) (fun qx304 => ?_)
                                                                                  refine r_aloadn (pc := 1485) (cs := (c0, s0)) hX 0 rfl (dk D_L_law_26 7 rfl) ?_
                                                                                  refine r_iloadn (pc := 1486) (cs := (c0, s0)) hX 3 rfl (dk D_L_law_26 8 rfl) ?_
                                                                                  refine r_iconst (pc := 1487) (cs := (c0, s0)) hX (dk D_L_law_26 9 rfl) ?_
                                                                                  refine r_iadd (pc := 1488) (cs := (c0, s0)) hX (dk D_L_law_26 10 rfl) ?_
                                                                                  obtain ⟨x305, hx305, h⟩ := bd_some h
                                                                                  refine r_sls (pc := 1489) (cs := (c0, s0)) hX hsc (R32_w _) hx305 (dk D_L_law_26 11 rfl) (fun qx305 => ?_)
                                                                                  obtain ⟨_, hi, h⟩ := bd_some h
                                                                                  obtain ⟨x306, μ307, hx306, h⟩ := bd2_some h
                                                                                  refine r_invV0 (As := [(0, x301), (0, x302), (0, x303), (0, x304), (0, x305)]) (pc := 1490) (cs := (c0, s0)) hX ml_L_171 (L_M_meet qx301 qx302 qx303 qx304 qx305 hx306) (isk_u hi) (Rm_law hRm (by decide) ⟨by (try dsimp only); omega, by (try dsimp only); omega⟩) (by decide) rfl (Nat.le_of_ble_eq_true rfl) rfl (dk D_L_law_26 12 rfl) (fun qx306 => ?_)
                                                                                  refine r_icmp_eq (pc := 1493) (cs := (c0, s0)) hX qx299 qx306 1760 rfl (dk D_L_law_26 13 rfl) (fun hc => ?_) (fun hc => ?_)
                                                                                  · rw [if_pos hc] at h
                                                                                    refine r_iinc (lv' := [(3, 0, (w32 (v3 + 6))), (0, 2, -100), (1, 2, v1), (2, 2, v2)]) (pc := 1760) (cs := (c0, s0)) hX 3 rfl (by decide) rfl (dk D_L_law_31 30 rfl) ?_
                                                                                    refine r_goto (pc := 1763) (cs := (c0, s0)) hX 18 rfl (dk D_L_law_31 31 rfl) ?_
                                                                                    refine r_sub (lv' := [(0, 2, -100), (1, 2, v1), (2, 2, v2), (3, 0, (w32 (v3 + 6)))]) [1, 2, 3, 0] rfl ?_
                                                                                    exact ih (-100) v1 v2 (w32 (v3 + 6)) μ307 c0 s0 (by omega) rfl (R32_w _) h
                                                                                  · rw [if_neg hc] at h
                                                                                    refine r_iconst (pc := 1496) (cs := (c0, s0)) hX (dk D_L_law_26 14 rfl) ?_
                                                                                    cases h
                                                                                · rw [if_neg hc37] at h
                                                                                  by_cases hc38 : (and32 x1 63) = 38
                                                                                  · rw [if_pos hc38] at h
                                                                                    refine r_table (pc := 33) (cs := (c0, s0)) hX (by rw [hc38]; exact R32_lit rfl) 1498 (dk D_L_law_0 21 rfl) (by omega) (by omega) (by rw [hc38]; rfl) rfl ?_
                                                                                    refine r_aloadn (pc := 1498) (cs := (c0, s0)) hX 1 rfl (dk D_L_law_26 16 rfl) ?_
                                                                                    refine r_aloadn (pc := 1499) (cs := (c0, s0)) hX 0 rfl (dk D_L_law_26 17 rfl) ?_
                                                                                    refine r_iloadn (pc := 1500) (cs := (c0, s0)) hX 3 rfl (dk D_L_law_26 18 rfl) ?_
                                                                                    refine r_iconst (pc := 1501) (cs := (c0, s0)) hX (dk D_L_law_26 19 rfl) ?_
                                                                                    refine r_iadd (pc := 1502) (cs := (c0, s0)) hX (dk D_L_law_26 20 rfl) ?_
                                                                                    obtain ⟨x308, hx308, h⟩ := bd_some h
                                                                                    refine r_sls (pc := 1503) (cs := (c0, s0)) hX hsc (R32_w _) hx308 (dk D_L_law_26 21 rfl) (fun qx308 => ?_)
                                                                                    refine r_aloadn (pc := 1504) (cs := (c0, s0)) hX 0 rfl (dk D_L_law_26 22 rfl) ?_
                                                                                    refine r_iloadn (pc := 1505) (cs := (c0, s0)) hX 3 rfl (dk D_L_law_26 23 rfl) ?_
                                                                                    refine r_iconst (pc := 1506) (cs := (c0, s0)) hX (dk D_L_law_26 24 rfl) ?_
                                                                                    refine r_iadd (pc := 1507) (cs := (c0, s0)) hX (dk D_L_law_26 25 rfl) ?_
                                                                                    obtain ⟨x309, hx309, h⟩ := bd_some h
                                                                                    refine r_sls (pc := 1508) (cs := (c0, s0)) hX hsc (R32_w _) hx309 (dk D_L_law_26 26 rfl) (fun qx309 => ?_)
                                                                                    refine r_aloadn (pc := 1509) (cs := (c0, s0)) hX 0 rfl (dk D_L_law_26 27 rfl) ?_
                                                                                    refine r_iloadn (pc := 1510) (cs := (c0, s0)) hX 3 rfl (dk D_L_law_26 28 rfl) ?_
                                                                                    refine r_iconst (pc := 1511) (cs := (c0, s0)) hX (dk D_L_law_26 29 rfl) ?_
                                                                                    refine r_iadd (pc := 1512) (cs := (c0, s0)) hX (dk D_L_law_26 30 rfl) ?_
                                                                                    obtain ⟨x310, hx310, h⟩ := bd_some h
                                                                                    refine r_sls (pc := 1513) (cs := (c0, s0)) hX hsc (R32_w _) hx310 (dk D_L_law_26 31 rfl) (fun qx310 => ?_)
                                                                                    obtain ⟨_, hi, h⟩ := bd_some h
                                                                                    obtain ⟨x311, μ312, hx311, h⟩ := bd2_some h
                                                                                    refine r_invV0 (As := [(0, x308), (0, x309), (0, x310)]) (pc := 1514) (cs := (c0, s0)) hX ml_L_172 (L_T_fair qx308 qx309 qx310 hx311) (isk_u hi) (Rm_law hRm (by decide) ⟨by (try dsimp only); omega, by (try dsimp only); omega⟩) (by decide) rfl (Nat.le_of_ble_eq_true rfl) rfl (dk D_L_law_26 32 rfl) (fun qx311 => ?_)
                                                                                    refine r_aloadn (pc := 1517) (cs := (c0, s0)) hX 2 rfl (dk D_L_law_26 33 rfl) ?_
                                                                                    refine r_aloadn (pc := 1518) (cs := (c0, s0)) hX 0 rfl (dk D_L_law_26 34 rfl) ?_
                                                                                    refine r_iloadn (pc := 1519) (cs := (c0, s0)) hX 3 rfl (dk D_L_law_26 35 rfl) ?_
                                                                                    refine r_iconst (pc := 1520) (cs := (c0, s0)) hX (dk D_L_law_26 36 rfl) ?_
                                                                                    refine r_iadd (pc := 1521) (cs := (c0, s0)) hX (dk D_L_law_26 37 rfl) ?_
                                                                                    obtain ⟨x313, hx313, h⟩ := bd_some h
                                                                                    refine r_sls (pc := 1522) (cs := (c0, s0)) hX hsc (R32_w _) hx313 (dk D_L_law_26 38 rfl) (fun qx313 => ?_)
                                                                                    refine r_aloadn (pc := 1523) (cs := (c0, s0)) hX 0 rfl (dk D_L_law_26 39 rfl) ?_
                                                                                    refine r_iloadn (pc := 1524) (cs := (c0, s0)) hX 3 rfl (dk D_L_law_27 0 rfl) ?_
                                                                                    refine r_iconst (pc := 1525) (cs := (c0, s0)) hX (dk D_L_law_27 1 rfl) ?_
                                                                                    refine r_iadd (pc := 1526) (cs := (c0, s0)) hX (dk D_L_law_27 2 rfl) ?_
                                                                                    obtain ⟨x314, hx314, h⟩ := bd_some h
                                                                                    refine r_sls (pc := 1527) (cs := (c0, s0)) hX hsc (R32_w _) hx314 (dk D_L_law_27 3 rfl) (fun qx314 => ?_)
                                                                                    refine r_aloadn (pc := 1528) (cs := (c0, s0)) hX 0 rfl (dk D_L_law_27 4 rfl) ?_
                                                                                    refine r_iloadn (pc := 1529) (cs := (c0, s0)) hX 3 rfl (dk D_L_law_27 5 rfl) ?_
                                                                                    refine r_iconst (pc := 1530) (cs := (c0, s0)) hX (dk D_L_law_27 6 rfl) ?_
                                                                                    refine r_iadd (pc := 1531) (cs := (c0, s0)) hX (dk D_L_law_27 7 rfl) ?_
                                                                                    obtain ⟨x315, hx315, h⟩ := bd_some h
                                                                                    refine r_sls (pc := 1532) (cs := (c0, s0)) hX hsc (R32_w _) hx315 (dk D_L_law_27 8 rfl) (fun qx315 => ?_)
                                                                                    obtain ⟨_, hi, h⟩ := bd_some h
                                                                                    obtain ⟨x316, μ317, hx316, h⟩ := bd2_some h
                                                                                    refine r_invV0 (As := [(0, x313), (0, x314), (0, x315)]) (pc := 1533) (cs := (c0, s0)) hX ml_L_175 (L_M_fair qx313 qx314 qx315 hx316) (isk_u hi) (Rm_law hRm (by decide) ⟨by (try dsimp only); omega, by (try dsimp only); omega⟩) (by decide) rfl (Nat.le_of_ble_eq_true rfl) rfl (dk D_L_law_27 9 rfl) (fun qx316 => ?_)
                                                                                    refine r_icmp_eq (pc := 1536) (cs := (c0, s0)) hX qx311 qx316 1760 rfl (dk D_L_law_27 10 rfl) (fun hc => ?_) (fun hc => ?_)
                                                                                    · rw [if_pos hc] at h
                                                                                      refine r_iinc (lv' := [(3, 0, (w32 (v3 + 6))), (0, 2, -100), (1, 2, v1), (2, 2, v2)]) (pc := 1760) (cs := (c0, s0)) hX 3 rfl (by decide) rfl (dk D_L_law_31 30 rfl) ?_
                                                                                      refine r_goto (pc := 1763) (cs := (c0, s0)) hX 18 rfl (dk D_L_law_31 31 rfl) ?_
                                                                                      refine r_sub (lv' := [(0, 2, -100), (1, 2, v1), (2, 2, v2), (3, 0, (w32 (v3 + 6)))]) [1, 2, 3, 0] rfl ?_
                                                                                      exact ih (-100) v1 v2 (w32 (v3 + 6)) μ317 c0 s0 (by omega) rfl (R32_w _) h
                                                                                    · rw [if_neg hc] at h
                                                                                      refine r_iconst (pc := 1539) (cs := (c0, s0)) hX (dk D_L_law_27 11 rfl) ?_
                                                                                      cases h
                                                                                  · rw [if_neg hc38] at h
                                                                                    by_cases hc39 : (and32 x1 63) = 39
                                                                                    · rw [if_pos hc39] at h
                                                                                      refine r_table (pc := 33) (cs := (c0, s0)) hX (by rw [hc39]; exact R32_lit rfl) 1541 (dk D_L_law_0 21 rfl) (by omega) (by omega) (by rw [hc39]; rfl) rfl ?_
                                                                                      refine r_aloadn (pc := 1541) (cs := (c0, s0)) hX 1 rfl (dk D_L_law_27 13 rfl) ?_
                                                                                      refine r_aloadn (pc := 1542) (cs := (c0, s0)) hX 0 rfl (dk D_L_law_27 14 rfl) ?_
                                                                                      refine r_iloadn (pc := 1543) (cs := (c0, s0)) hX 3 rfl (dk D_L_law_27 15 rfl) ?_
                                                                                      refine r_iconst (pc := 1544) (cs := (c0, s0)) hX (dk D_L_law_27 16 rfl) ?_
                                                                                      refine r_iadd (pc := 1545) (cs := (c0, s0)) hX (dk D_L_law_27 17 rfl) ?_
                                                                                      obtain ⟨x318, hx318, h⟩ := bd_some h
                                                                                      refine r_sls (pc := 1546) (cs := (c0, s0)) hX hsc (R32_w _) hx318 (dk D_L_law_27 18 rfl) (fun qx318 => ?_)
                                                                                      refine r_aloadn (pc := 1547) (cs := (c0, s0)) hX 0 rfl (dk D_L_law_27 19 rfl) ?_
                                                                                      refine r_iloadn (pc := 1548) (cs := (c0, s0)) hX 3 rfl (dk D_L_law_27 20 rfl) ?_
                                                                                      refine r_iconst (pc := 1549) (cs := (c0, s0)) hX (dk D_L_law_27 21 rfl) ?_
                                                                                      refine r_iadd (pc := 1550) (cs := (c0, s0)) hX (dk D_L_law_27 22 rfl) ?_
                                                                                      obtain ⟨x319, hx319, h⟩ := bd_some h
                                                                                      refine r_sls (pc := 1551) (cs := (c0, s0)) hX hsc (R32_w _) hx319 (dk D_L_law_27 23 rfl) (fun qx319 => ?_)
                                                                                      refine r_aloadn (pc := 1552) (cs := (c0, s0)) hX 0 rfl (dk D_L_law_27 24 rfl) ?_
                                                                                      refine r_iloadn (pc := 1553) (cs := (c0, s0)) hX 3 rfl (dk D_L_law_27 25 rfl) ?_
                                                                                      refine r_iconst (pc := 1554) (cs := (c0, s0)) hX (dk D_L_law_27 26 rfl) ?_
                                                                                      refine r_iadd (pc := 1555) (cs := (c0, s0)) hX (dk D_L_law_27 27 rfl) ?_
                                                                                      obtain ⟨x320, hx320, h⟩ := bd_some h
                                                                                      refine r_sls (pc := 1556) (cs := (c0, s0)) hX hsc (R32_w _) hx320 (dk D_L_law_27 28 rfl) (fun qx320 => ?_)
                                                                                      obtain ⟨_, hi, h⟩ := bd_some h
                                                                                      obtain ⟨x321, μ322, hx321, h⟩ := bd2_some h
                                                                                      refine r_invV0 (As := [(0, x318), (0, x319), (0, x320)]) (pc := 1557) (cs := (c0, s0)) hX ml_L_176 (L_T_numbers qx318 qx319 qx320 hx321) (isk_u hi) (Rm_law hRm (by decide) ⟨by (try dsimp only); omega, by (try dsimp only); omega⟩) (by decide) rfl (Nat.le_of_ble_eq_true rfl) rfl (dk D_L_law_27 29 rfl) (fun qx321 => ?_)
                                                                                      refine r_aloadn (pc := 1560) (cs := (c0, s0)) hX 2 rfl (dk D_L_law_27 30 rfl) ?_
                                                                                      refine r_aloadn (pc := 1561) (cs := (c0, s0)) hX 0 rfl (dk D_L_law_27 31 rfl) ?_
                                                                                      refine r_iloadn (pc := 1562) (cs := (c0, s0)) hX 3 rfl (dk D_L_law_27 32 rfl) ?_
                                                                                      refine r_iconst (pc := 1563) (cs := (c0, s0)) hX (dk D_L_law_27 33 rfl) ?_
                                                                                      refine r_iadd (pc := 1564) (cs := (c0, s0)) hX (dk D_L_law_27 34 rfl) ?_
                                                                                      obtain ⟨x323, hx323, h⟩ := bd_some h
                                                                                      refine r_sls (pc := 1565) (cs := (c0, s0)) hX hsc (R32_w _) hx323 (dk D_L_law_27 35 rfl) (fun qx323 => ?_)
                                                                                      refine r_aloadn (pc := 1566) (cs := (c0, s0)) hX 0 rfl (dk D_L_law_27 36 rfl) ?_
                                                                                      refine r_iloadn (pc := 1567) (cs := (c0, s0)) hX 3 rfl (dk D_L_law_27 37 rfl) ?_
                                                                                      refine r_iconst (pc := 1568) (cs := (c0, s0)) hX (dk D_L_law_27 38 rfl) ?_
                                                                                      refine r_iadd (pc := 1569) (cs := (c0, s0)) hX (dk D_L_law_27 39 rfl) ?_
                                                                                      obtain ⟨x324, hx324, h⟩ := bd_some h
                                                                                      refine r_sls (pc := 1570) (cs := (c0, s0)) hX hsc (R32_w _) hx324 (dk D_L_law_28 0 rfl) (fun qx324 => ?_)
                                                                                      refine r_aloadn (pc := 1571) (cs := (c0, s0)) hX 0 rfl (dk D_L_law_28 1 rfl) ?_
                                                                                      refine r_iloadn (pc := 1572) (cs := (c0, s0)) hX 3 rfl (dk D_L_law_28 2 rfl) ?_
                                                                                      refine r_iconst (pc := 1573) (cs := (c0, s0)) hX (dk D_L_law_28 3 rfl) ?_
                                                                                      refine r_iadd (pc := 1574) (cs := (c0, s0)) hX (dk D_L_law_28 4 rfl) ?_
                                                                                      obtain ⟨x325, hx325, h⟩ := bd_some h
                                                                                      refine r_sls (pc := 1575) (cs := (c0, s0)) hX hsc (R32_w _) hx325 (dk D_L_law_28 5 rfl) (fun qx325 => ?_)
                                                                                      obtain ⟨_, hi, h⟩ := bd_some h
                                                                                      obtain ⟨x326, μ327, hx326, h⟩ := bd2_some h
                                                                                      refine r_invV0 (As := [(0, x323), (0, x324), (0, x325)]) (pc := 1576) (cs := (c0, s0)) hX ml_L_179 (L_M_numbers qx323 qx324 qx325 hx326) (isk_u hi) (Rm_law hRm (by decide) ⟨by (try dsimp only); omega, by (try dsimp only); omega⟩) (by decide) rfl (Nat.le_of_ble_eq_true rfl) rfl (dk D_L_law_28 6 rfl) (fun qx326 => ?_)
                                                                                      refine r_icmp_eq (pc := 1579) (cs := (c0, s0)) hX qx321 qx326 1760 rfl (dk D_L_law_28 7 rfl) (fun hc => ?_) (fun hc => ?_)
                                                                                      · rw [if_pos hc] at h
                                                                                        refine r_iinc (lv' := [(3, 0, (w32 (v3 + 6))), (0, 2, -100), (1, 2, v1), (2, 2, v2)]) (pc := 1760) (cs := (c0, s0)) hX 3 rfl (by decide) rfl (dk D_L_law_31 30 rfl) ?_
                                                                                        refine r_goto (pc := 1763) (cs := (c0, s0)) hX 18 rfl (dk D_L_law_31 31 rfl) ?_
                                                                                        refine r_sub (lv' := [(0, 2, -100), (1, 2, v1), (2, 2, v2), (3, 0, (w32 (v3 + 6)))]) [1, 2, 3, 0] rfl ?_
                                                                                        exact ih (-100) v1 v2 (w32 (v3 + 6)) μ327 c0 s0 (by omega) rfl (R32_w _) h
                                                                                      · rw [if_neg hc] at h
                                                                                        refine r_iconst (pc := 1582) (cs := (c0, s0)) hX (dk D_L_law_28 8 rfl) ?_
                                                                                        cases h
                                                                                    · rw [if_neg hc39] at h
                                                                                      by_cases hc40 : (and32 x1 63) = 40
                                                                                      · rw [if_pos hc40] at h
                                                                                        refine r_table (pc := 33) (cs := (c0, s0)) hX (by rw [hc40]; exact R32_lit rfl) 1584 (dk D_L_law_0 21 rfl) (by omega) (by omega) (by rw [hc40]; rfl) rfl ?_
                                                                                        refine r_aloadn (pc := 1584) (cs := (c0, s0)) hX 1 rfl (dk D_L_law_28 10 rfl) ?_
                                                                                        refine r_aloadn (pc := 1585) (cs := (c0, s0)) hX 0 rfl (dk D_L_law_28 11 rfl) ?_
                                                                                        refine r_iloadn (pc := 1586) (cs := (c0, s0)) hX 3 rfl (dk D_L_law_28 12 rfl) ?_
                                                                                        refine r_iconst (pc := 1587) (cs := (c0, s0)) hX (dk D_L_law_28 13 rfl) ?_
                                                                                        refine r_iadd (pc := 1588) (cs := (c0, s0)) hX (dk D_L_law_28 14 rfl) ?_
                                                                                        obtain ⟨x328, hx328, h⟩ := bd_some h
                                                                                        refine r_sls (pc := 1589) (cs := (c0, s0)) hX hsc (R32_w _) hx328 (dk D_L_law_28 15 rfl) (fun qx328 => ?_)
                                                                                        refine r_aloadn (pc := 1590) (cs := (c0, s0)) hX 0 rfl (dk D_L_law_28 16 rfl) ?_
                                                                                        refine r_iloadn (pc := 1591) (cs := (c0, s0)) hX 3 rfl (dk D_L_law_28 17 rfl) ?_
                                                                                        refine r_iconst (pc := 1592) (cs := (c0, s0)) hX (dk D_L_law_28 18 rfl) ?_
                                                                                        refine r_iadd (pc := 1593) (cs := (c0, s0)) hX (dk D_L_law_28 19 rfl) ?_
                                                                                        obtain ⟨x329, hx329, h⟩ := bd_some h
                                                                                        refine r_sls (pc := 1594) (cs := (c0, s0)) hX hsc (R32_w _) hx329 (dk D_L_law_28 20 rfl) (fun qx329 => ?_)
                                                                                        refine r_aloadn (pc := 1595) (cs := (c0, s0)) hX 0 rfl (dk D_L_law_28 21 rfl) ?_
                                                                                        refine r_iloadn (pc := 1596) (cs := (c0, s0)) hX 3 rfl (dk D_L_law_28 22 rfl) ?_
                                                                                        refine r_iconst (pc := 1597) (cs := (c0, s0)) hX (dk D_L_law_28 23 rfl) ?_
                                                                                        refine r_iadd (pc := 1598) (cs := (c0, s0)) hX (dk D_L_law_28 24 rfl) ?_
                                                                                        obtain ⟨x330, hx330, h⟩ := bd_some h
                                                                                        refine r_sls (pc := 1599) (cs := (c0, s0)) hX hsc (R32_w _) hx330 (dk D_L_law_28 25 rfl) (fun qx330 => ?_)
                                                                                        refine r_i2l (pc := 1600) (cs := (c0, s0)) hX qx330 (dk D_L_law_28 26 rfl) ?_
                                                                                        refine r_bipush (pc := 1601) (cs := (c0, s0)) hX rfl (dk D_L_law_28 27 rfl) ?_
                                                                                        refine r_lshl (pc := 1603) (cs := (c0, s0)) hX (dk D_L_law_28 28 rfl) ?_
                                                                                        refine r_aloadn (pc := 1604) (cs := (c0, s0)) hX 0 rfl (dk D_L_law_28 29 rfl) ?_
                                                                                        refine r_iloadn (pc := 1605) (cs := (c0, s0)) hX 3 rfl (dk D_L_law_28 30 rfl) ?_
                                                                                        refine r_iconst (pc := 1606) (cs := (c0, s0)) hX (dk D_L_law_28 31 rfl) ?_
                                                                                        refine r_iadd (pc := 1607) (cs := (c0, s0)) hX (dk D_L_law_28 32 rfl) ?_
                                                                                        obtain ⟨x331, hx331, h⟩ := bd_some h
                                                                                        refine r_sls (pc := 1608) (cs := (c0, s0)) hX hsc (R32_w _) hx331 (dk D_L_law_28 33 rfl) (fun qx331 => ?_)
                                                                                        refine r_i2l (pc := 1609) (cs := (c0, s0)) hX qx331 (dk D_L_law_28 34 rfl) ?_
                                                                                        refine r_ldc2 (pc := 1610) (cs := (c0, s0)) hX cn_L_180 (dk D_L_law_28 35 rfl) ?_
                                                                                        refine r_land (pc := 1613) (cs := (c0, s0)) hX (dk D_L_law_28 36 rfl) ?_
                                                                                        refine r_lor (pc := 1614) (cs := (c0, s0)) hX (dk D_L_law_28 37 rfl) ?_
                                                                                        obtain ⟨_, hi, h⟩ := bd_some h
                                                                                        obtain ⟨x332, μ333, hx332, h⟩ := bd2_some h
                                                                                        refine r_invV0 (As := [(0, x328), (0, x329), (1, (or64 (shl64 x330 32) (and64 x331 4294967295)))]) (pc := 1615) (cs := (c0, s0)) hX ml_L_182 (L_T_write qx328 qx329 (R64_t _) hx332) (isk_u hi) (Rm_law hRm (by decide) ⟨by (try dsimp only); omega, by (try dsimp only); omega⟩) (by decide) rfl (Nat.le_of_ble_eq_true rfl) rfl (dk D_L_law_28 38 rfl) (fun qx332 => ?_)
                                                                                        refine r_aloadn (pc := 1618) (cs := (c0, s0)) hX 2 rfl (dk D_L_law_28 39 rfl) ?_
                                                                                        refine r_aloadn (pc := 1619) (cs := (c0, s0)) hX 0 rfl (dk D_L_law_29 0 rfl) ?_
                                                                                        refine r_iloadn (pc := 1620) (cs := (c0, s0)) hX 3 rfl (dk D_L_law_29 1 rfl) ?_
                                                                                        refine r_iconst (pc := 1621) (cs := (c0, s0)) hX (dk D_L_law_29 2 rfl) ?_
                                                                                        refine r_iadd (pc := 1622) (cs := (c0, s0)) hX (dk D_L_law_29 3 rfl) ?_
                                                                                        obtain ⟨x334, hx334, h⟩ := bd_some h
                                                                                        refine r_sls (pc := 1623) (cs := (c0, s0)) hX hsc (R32_w _) hx334 (dk D_L_law_29 4 rfl) (fun qx334 => ?_)
                                                                                        refine r_aloadn (pc := 1624) (cs := (c0, s0)) hX 0 rfl (dk D_L_law_29 5 rfl) ?_
                                                                                        refine r_iloadn (pc := 1625) (cs := (c0, s0)) hX 3 rfl (dk D_L_law_29 6 rfl) ?_
                                                                                        refine r_iconst (pc := 1626) (cs := (c0, s0)) hX (dk D_L_law_29 7 rfl) ?_
                                                                                        refine r_iadd (pc := 1627) (cs := (c0, s0)) hX (dk D_L_law_29 8 rfl) ?_
                                                                                        obtain ⟨x335, hx335, h⟩ := bd_some h
                                                                                        refine r_sls (pc := 1628) (cs := (c0, s0)) hX hsc (R32_w _) hx335 (dk D_L_law_29 9 rfl) (fun qx335 => ?_)
                                                                                        refine r_aloadn (pc := 1629) (cs := (c0, s0)) hX 0 rfl (dk D_L_law_29 10 rfl) ?_
                                                                                        refine r_iloadn (pc := 1630) (cs := (c0, s0)) hX 3 rfl (dk D_L_law_29 11 rfl) ?_
                                                                                        refine r_iconst (pc := 1631) (cs := (c0, s0)) hX (dk D_L_law_29 12 rfl) ?_
                                                                                        refine r_iadd (pc := 1632) (cs := (c0, s0)) hX (dk D_L_law_29 13 rfl) ?_
                                                                                        obtain ⟨x336, hx336, h⟩ := bd_some h
                                                                                        refine r_sls (pc := 1633) (cs := (c0, s0)) hX hsc (R32_w _) hx336 (dk D_L_law_29 14 rfl) (fun qx336 => ?_)
                                                                                        refine r_i2l (pc := 1634) (cs := (c0, s0)) hX qx336 (dk D_L_law_29 15 rfl) ?_
                                                                                        refine r_bipush (pc := 1635) (cs := (c0, s0)) hX rfl (dk D_L_law_29 16 rfl) ?_
                                                                                        refine r_lshl (pc := 1637) (cs := (c0, s0)) hX (dk D_L_law_29 17 rfl) ?_
                                                                                        refine r_aloadn (pc := 1638) (cs := (c0, s0)) hX 0 rfl (dk D_L_law_29 18 rfl) ?_
                                                                                        refine r_iloadn (pc := 1639) (cs := (c0, s0)) hX 3 rfl (dk D_L_law_29 19 rfl) ?_
                                                                                        refine r_iconst (pc := 1640) (cs := (c0, s0)) hX (dk D_L_law_29 20 rfl) ?_
                                                                                        refine r_iadd (pc := 1641) (cs := (c0, s0)) hX (dk D_L_law_29 21 rfl) ?_
                                                                                        obtain ⟨x337, hx337, h⟩ := bd_some h
                                                                                        refine r_sls (pc := 1642) (cs := (c0, s0)) hX hsc (R32_w _) hx337 (dk D_L_law_29 22 rfl) (fun qx337 => ?_)
                                                                                        refine r_i2l (pc := 1643) (cs := (c0, s0)) hX qx337 (dk D_L_law_29 23 rfl) ?_
                                                                                        refine r_ldc2 (pc := 1644) (cs := (c0, s0)) hX cn_L_180 (dk D_L_law_29 24 rfl) ?_
                                                                                        refine r_land (pc := 1647) (cs := (c0, s0)) hX (dk D_L_law_29 25 rfl) ?_
                                                                                        refine r_lor (pc := 1648) (cs := (c0, s0)) hX (dk D_L_law_29 26 rfl) ?_
                                                                                        obtain ⟨_, hi, h⟩ := bd_some h
                                                                                        obtain ⟨x338, μ339, hx338, h⟩ := bd2_some h
                                                                                        refine r_invV0 (As := [(0, x334), (0, x335), (1, (or64 (shl64 x336 32) (and64 x337 4294967295)))]) (pc := 1649) (cs := (c0, s0)) hX ml_L_186 (L_M_write qx334 qx335 (R64_t _) hx338) (isk_u hi) (Rm_law hRm (by decide) ⟨by (try dsimp only); omega, by (try dsimp only); omega⟩) (by decide) rfl (Nat.le_of_ble_eq_true rfl) rfl (dk D_L_law_29 27 rfl) (fun qx338 => ?_)
                                                                                        refine r_lcmp (pc := 1652) (cs := (c0, s0)) hX qx332 qx338 (dk D_L_law_29 28 rfl) ?_
                                                                                        refine r_if_eq (pc := 1653) (cs := (c0, s0)) hX (R32_cmp _ _) 1760 rfl (dk D_L_law_29 29 rfl) (fun hc => ?_) (fun hc => ?_)
                                                                                        · rw [if_pos hc] at h
                                                                                          refine r_iinc (lv' := [(3, 0, (w32 (v3 + 6))), (0, 2, -100), (1, 2, v1), (2, 2, v2)]) (pc := 1760) (cs := (c0, s0)) hX 3 rfl (by decide) rfl (dk D_L_law_31 30 rfl) ?_
                                                                                          refine r_goto (pc := 1763) (cs := (c0, s0)) hX 18 rfl (dk D_L_law_31 31 rfl) ?_
                                                                                          refine r_sub (lv' := [(0, 2, -100), (1, 2, v1), (2, 2, v2), (3, 0, (w32 (v3 + 6)))]) [1, 2, 3, 0] rfl ?_
                                                                                          exact ih (-100) v1 v2 (w32 (v3 + 6)) μ339 c0 s0 (by omega) rfl (R32_w _) h
                                                                                        · rw [if_neg hc] at h
                                                                                          refine r_iconst (pc := 1656) (cs := (c0, s0)) hX (dk D_L_law_29 30 rfl) ?_
                                                                                          cases h
                                                                                      · rw [if_neg hc40] at h
                                                                                        by_cases hc41 : (and32 x1 63) = 41
                                                                                        · rw [if_pos hc41] at h
                                                                                          refine r_table (pc := 33) (cs := (c0, s0)) hX (by rw [hc41]; exact R32_lit rfl) 1658 (dk D_L_law_0 21 rfl) (by omega) (by omega) (by rw [hc41]; rfl) rfl ?_
                                                                                          refine r_aloadn (pc := 1658) (cs := (c0, s0)) hX 1 rfl (dk D_L_law_29 32 rfl) ?_
                                                                                          refine r_aloadn (pc := 1659) (cs := (c0, s0)) hX 0 rfl (dk D_L_law_29 33 rfl) ?_
                                                                                          refine r_iloadn (pc := 1660) (cs := (c0, s0)) hX 3 rfl (dk D_L_law_29 34 rfl) ?_
                                                                                          refine r_iconst (pc := 1661) (cs := (c0, s0)) hX (dk D_L_law_29 35 rfl) ?_
                                                                                          refine r_iadd (pc := 1662) (cs := (c0, s0)) hX (dk D_L_law_29 36 rfl) ?_
                                                                                          obtain ⟨x340, hx340, h⟩ := bd_some h
                                                                                          refine r_sls (pc := 1663) (cs := (c0, s0)) hX hsc (R32_w _) hx340 (dk D_L_law_29 37 rfl) (fun qx340 => ?_)
                                                                                          refine r_aloadn (pc := 1664) (cs := (c0, s0)) hX 0 rfl (dk D_L_law_29 38 rfl) ?_
                                                                                          refine r_iloadn (pc := 1665) (cs := (c0, s0)) hX 3 rfl (dk D_L_law_29 39 rfl) ?_
                                                                                          refine r_iconst (pc := 1666) (cs := (c0, s0)) hX (dk D_L_law_30 0 rfl) ?_
                                                                                          refine r_iadd (pc := 1667) (cs := (c0, s0)) hX (dk D_L_law_30 1 rfl) ?_
                                                                                          obtain ⟨x341, hx341, h⟩ := bd_some h
                                                                                          refine r_sls (pc := 1668) (cs := (c0, s0)) hX hsc (R32_w _) hx341 (dk D_L_law_30 2 rfl) (fun qx341 => ?_)
                                                                                          obtain ⟨_, hi, h⟩ := bd_some h
                                                                                          obtain ⟨x342, μ343, hx342, h⟩ := bd2_some h
                                                                                          refine r_invV0 (As := [(0, x340), (0, x341)]) (pc := 1669) (cs := (c0, s0)) hX ml_L_187 (L_T_copy qx340 qx341 hx342) (isk_u hi) (Rm_law hRm (by decide) ⟨by (try dsimp only); omega, by (try dsimp only); omega⟩) (by decide) rfl (Nat.le_of_ble_eq_true rfl) rfl (dk D_L_law_30 3 rfl) (fun qx342 => ?_)
                                                                                          refine r_aloadn (pc := 1672) (cs := (c0, s0)) hX 2 rfl (dk D_L_law_30 4 rfl) ?_
                                                                                          refine r_aloadn (pc := 1673) (cs := (c0, s0)) hX 0 rfl (dk D_L_law_30 5 rfl) ?_
                                                                                          refine r_iloadn (pc := 1674) (cs := (c0, s0)) hX 3 rfl (dk D_L_law_30 6 rfl) ?_
                                                                                          refine r_iconst (pc := 1675) (cs := (c0, s0)) hX (dk D_L_law_30 7 rfl) ?_
                                                                                          refine r_iadd (pc := 1676) (cs := (c0, s0)) hX (dk D_L_law_30 8 rfl) ?_
                                                                                          obtain ⟨x344, hx344, h⟩ := bd_some h
                                                                                          refine r_sls (pc := 1677) (cs := (c0, s0)) hX hsc (R32_w _) hx344 (dk D_L_law_30 9 rfl) (fun qx344 => ?_)
                                                                                          refine r_aloadn (pc := 1678) (cs := (c0, s0)) hX 0 rfl (dk D_L_law_30 10 rfl) ?_
                                                                                          refine r_iloadn (pc := 1679) (cs := (c0, s0)) hX 3 rfl (dk D_L_law_30 11 rfl) ?_
                                                                                          refine r_iconst (pc := 1680) (cs := (c0, s0)) hX (dk D_L_law_30 12 rfl) ?_
                                                                                          refine r_iadd (pc := 1681) (cs := (c0, s0)) hX (dk D_L_law_30 13 rfl) ?_
                                                                                          obtain ⟨x345, hx345, h⟩ := bd_some h
                                                                                          refine r_sls (pc := 1682) (cs := (c0, s0)) hX hsc (R32_w _) hx345 (dk D_L_law_30 14 rfl) (fun qx345 => ?_)
                                                                                          obtain ⟨_, hi, h⟩ := bd_some h
                                                                                          obtain ⟨x346, μ347, hx346, h⟩ := bd2_some h
                                                                                          refine r_invV0 (As := [(0, x344), (0, x345)]) (pc := 1683) (cs := (c0, s0)) hX ml_L_190 (L_M_copy qx344 qx345 hx346) (isk_u hi) (Rm_law hRm (by decide) ⟨by (try dsimp only); omega, by (try dsimp only); omega⟩) (by decide) rfl (Nat.le_of_ble_eq_true rfl) rfl (dk D_L_law_30 15 rfl) (fun qx346 => ?_)
                                                                                          refine r_icmp_eq (pc := 1686) (cs := (c0, s0)) hX qx342 qx346 1760 rfl (dk D_L_law_30 16 rfl) (fun hc => ?_) (fun hc => ?_)
                                                                                          · rw [if_pos hc] at h
                                                                                            refine r_iinc (lv' := [(3, 0, (w32 (v3 + 6))), (0, 2, -100), (1, 2, v1), (2, 2, v2)]) (pc := 1760) (cs := (c0, s0)) hX 3 rfl (by decide) rfl (dk D_L_law_31 30 rfl) ?_
                                                                                            refine r_goto (pc := 1763) (cs := (c0, s0)) hX 18 rfl (dk D_L_law_31 31 rfl) ?_
                                                                                            refine r_sub (lv' := [(0, 2, -100), (1, 2, v1), (2, 2, v2), (3, 0, (w32 (v3 + 6)))]) [1, 2, 3, 0] rfl ?_
                                                                                            exact ih (-100) v1 v2 (w32 (v3 + 6)) μ347 c0 s0 (by omega) rfl (R32_w _) h
                                                                                          · rw [if_neg hc] at h
                                                                                            refine r_iconst (pc := 1689) (cs := (c0, s0)) hX (dk D_L_law_30 17 rfl) ?_
                                                                                            cases h
                                                                                        · rw [if_neg hc41] at h
                                                                                          by_cases hc42 : (and32 x1 63) = 42
                                                                                          · rw [if_pos hc42] at h
                                                                                            refine r_table (pc := 33) (cs := (c0, s0)) hX (by rw [hc42]; exact R32_lit rfl) 1691 (dk D_L_law_0 21 rfl) (by omega) (by omega) (by rw [hc42]; rfl) rfl ?_
                                                                                            refine r_aloadn (pc := 1691) (cs := (c0, s0)) hX 1 rfl (dk D_L_law_30 19 rfl) ?_
                                                                                            refine r_aloadn (pc := 1692) (cs := (c0, s0)) hX 0 rfl (dk D_L_law_30 20 rfl) ?_
                                                                                            refine r_iloadn (pc := 1693) (cs := (c0, s0)) hX 3 rfl (dk D_L_law_30 21 rfl) ?_
                                                                                            refine r_iconst (pc := 1694) (cs := (c0, s0)) hX (dk D_L_law_30 22 rfl) ?_
                                                                                            refine r_iadd (pc := 1695) (cs := (c0, s0)) hX (dk D_L_law_30 23 rfl) ?_
                                                                                            obtain ⟨x348, hx348, h⟩ := bd_some h
                                                                                            refine r_sls (pc := 1696) (cs := (c0, s0)) hX hsc (R32_w _) hx348 (dk D_L_law_30 24 rfl) (fun qx348 => ?_)
                                                                                            obtain ⟨_, hi, h⟩ := bd_some h
                                                                                            obtain ⟨x349, μ350, hx349, h⟩ := bd2_some h
                                                                                            refine r_invV (As := [(0, x348)]) (pc := 1697) (cs := (c0, s0)) hX ml_L_191 (L_T_image qx348 hx349) (isk_u hi) (Rm_law hRm (by decide) ⟨by (try dsimp only); omega, by (try dsimp only); omega⟩) (by decide) rfl (Nat.le_of_ble_eq_true rfl) rfl (dk D_L_law_30 25 rfl) (fun qx349 => ?_)
                                                                                            refine r_aloadn (pc := 1700) (cs := (c0 + 37, s0 + 1768)) hX 2 rfl (dk D_L_law_30 26 rfl) ?_
                                                                                            refine r_aloadn (pc := 1701) (cs := (c0 + 37, s0 + 1768)) hX 0 rfl (dk D_L_law_30 27 rfl) ?_
                                                                                            refine r_iloadn (pc := 1702) (cs := (c0 + 37, s0 + 1768)) hX 3 rfl (dk D_L_law_30 28 rfl) ?_
                                                                                            refine r_iconst (pc := 1703) (cs := (c0 + 37, s0 + 1768)) hX (dk D_L_law_30 29 rfl) ?_
                                                                                            refine r_iadd (pc := 1704) (cs := (c0 + 37, s0 + 1768)) hX (dk D_L_law_30 30 rfl) ?_
                                                                                            obtain ⟨x351, hx351, h⟩ := bd_some h
                                                                                            refine r_sls (pc := 1705) (cs := (c0 + 37, s0 + 1768)) hX hsc (R32_w _) hx351 (dk D_L_law_30 31 rfl) (fun qx351 => ?_)
                                                                                            obtain ⟨_, hi, h⟩ := bd_some h
                                                                                            obtain ⟨x352, μ353, hx352, h⟩ := bd2_some h
                                                                                            refine r_invV0 (As := [(0, x351)]) (pc := 1706) (cs := (c0 + 37, s0 + 1768)) hX ml_L_194 (L_M_image qx351 hx352) (isk_u hi) (Rm_law hRm (by decide) ⟨by (try dsimp only); omega, by (try dsimp only); omega⟩) (by decide) rfl (Nat.le_of_ble_eq_true rfl) rfl (dk D_L_law_30 32 rfl) (fun qx352 => ?_)
                                                                                            refine r_icmp_eq (pc := 1709) (cs := (c0 + 37, s0 + 1768)) hX qx349 qx352 1760 rfl (dk D_L_law_30 33 rfl) (fun hc => ?_) (fun hc => ?_)
                                                                                            · rw [if_pos hc] at h
                                                                                              refine r_iinc (lv' := [(3, 0, (w32 (v3 + 6))), (0, 2, -100), (1, 2, v1), (2, 2, v2)]) (pc := 1760) (cs := (c0 + 37, s0 + 1768)) hX 3 rfl (by decide) rfl (dk D_L_law_31 30 rfl) ?_
                                                                                              refine r_goto (pc := 1763) (cs := (c0 + 37, s0 + 1768)) hX 18 rfl (dk D_L_law_31 31 rfl) ?_
                                                                                              refine r_sub (lv' := [(0, 2, -100), (1, 2, v1), (2, 2, v2), (3, 0, (w32 (v3 + 6)))]) [1, 2, 3, 0] rfl ?_
                                                                                              exact ih (-100) v1 v2 (w32 (v3 + 6)) μ353 (c0 + 37) (s0 + 1768) (by omega) rfl (R32_w _) h
                                                                                            · rw [if_neg hc] at h
                                                                                              refine r_iconst (pc := 1712) (cs := (c0 + 37, s0 + 1768)) hX (dk D_L_law_30 34 rfl) ?_
                                                                                              cases h
                                                                                          · rw [if_neg hc42] at h
                                                                                            by_cases hc43 : (and32 x1 63) = 43
                                                                                            · rw [if_pos hc43] at h
                                                                                              refine r_table (pc := 33) (cs := (c0, s0)) hX (by rw [hc43]; exact R32_lit rfl) 1714 (dk D_L_law_0 21 rfl) (by omega) (by omega) (by rw [hc43]; rfl) rfl ?_
                                                                                              refine r_aloadn (pc := 1714) (cs := (c0, s0)) hX 1 rfl (dk D_L_law_30 36 rfl) ?_
                                                                                              refine r_aloadn (pc := 1715) (cs := (c0, s0)) hX 0 rfl (dk D_L_law_30 37 rfl) ?_
                                                                                              refine r_iloadn (pc := 1716) (cs := (c0, s0)) hX 3 rfl (dk D_L_law_30 38 rfl) ?_
                                                                                              refine r_iconst (pc := 1717) (cs := (c0, s0)) hX (dk D_L_law_30 39 rfl) ?_
                                                                                              refine r_iadd (pc := 1718) (cs := (c0, s0)) hX (dk D_L_law_31 0 rfl) ?_
                                                                                              obtain ⟨x354, hx354, h⟩ := bd_some h
                                                                                              refine r_sls (pc := 1719) (cs := (c0, s0)) hX hsc (R32_w _) hx354 (dk D_L_law_31 1 rfl) (fun qx354 => ?_)
                                                                                              obtain ⟨_, hi, h⟩ := bd_some h
                                                                                              obtain ⟨x355, μ356, hx355, h⟩ := bd2_some h
                                                                                              refine r_invV0 (As := [(0, x354)]) (pc := 1720) (cs := (c0, s0)) hX ml_L_195 (L_T_restore qx354 hx355) (isk_u hi) (Rm_law hRm (by decide) ⟨by (try dsimp only); omega, by (try dsimp only); omega⟩) (by decide) rfl (Nat.le_of_ble_eq_true rfl) rfl (dk D_L_law_31 2 rfl) (fun qx355 => ?_)
                                                                                              refine r_aloadn (pc := 1723) (cs := (c0, s0)) hX 2 rfl (dk D_L_law_31 3 rfl) ?_
                                                                                              refine r_aloadn (pc := 1724) (cs := (c0, s0)) hX 0 rfl (dk D_L_law_31 4 rfl) ?_
                                                                                              refine r_iloadn (pc := 1725) (cs := (c0, s0)) hX 3 rfl (dk D_L_law_31 5 rfl) ?_
                                                                                              refine r_iconst (pc := 1726) (cs := (c0, s0)) hX (dk D_L_law_31 6 rfl) ?_
                                                                                              refine r_iadd (pc := 1727) (cs := (c0, s0)) hX (dk D_L_law_31 7 rfl) ?_
                                                                                              obtain ⟨x357, hx357, h⟩ := bd_some h
                                                                                              refine r_sls (pc := 1728) (cs := (c0, s0)) hX hsc (R32_w _) hx357 (dk D_L_law_31 8 rfl) (fun qx357 => ?_)
                                                                                              obtain ⟨_, hi, h⟩ := bd_some h
                                                                                              obtain ⟨x358, μ359, hx358, h⟩ := bd2_some h
                                                                                              refine r_invV0 (As := [(0, x357)]) (pc := 1729) (cs := (c0, s0)) hX ml_L_198 (L_M_restore qx357 hx358) (isk_u hi) (Rm_law hRm (by decide) ⟨by (try dsimp only); omega, by (try dsimp only); omega⟩) (by decide) rfl (Nat.le_of_ble_eq_true rfl) rfl (dk D_L_law_31 9 rfl) (fun qx358 => ?_)
                                                                                              refine r_icmp_eq (pc := 1732) (cs := (c0, s0)) hX qx355 qx358 1760 rfl (dk D_L_law_31 10 rfl) (fun hc => ?_) (fun hc => ?_)
                                                                                              · rw [if_pos hc] at h
                                                                                                refine r_iinc (lv' := [(3, 0, (w32 (v3 + 6))), (0, 2, -100), (1, 2, v1), (2, 2, v2)]) (pc := 1760) (cs := (c0, s0)) hX 3 rfl (by decide) rfl (dk D_L_law_31 30 rfl) ?_
                                                                                                refine r_goto (pc := 1763) (cs := (c0, s0)) hX 18 rfl (dk D_L_law_31 31 rfl) ?_
                                                                                                refine r_sub (lv' := [(0, 2, -100), (1, 2, v1), (2, 2, v2), (3, 0, (w32 (v3 + 6)))]) [1, 2, 3, 0] rfl ?_
                                                                                                exact ih (-100) v1 v2 (w32 (v3 + 6)) μ359 c0 s0 (by omega) rfl (R32_w _) h
                                                                                              · rw [if_neg hc] at h
                                                                                                refine r_iconst (pc := 1735) (cs := (c0, s0)) hX (dk D_L_law_31 11 rfl) ?_
                                                                                                cases h
                                                                                            · rw [if_neg hc43] at h
                                                                                              by_cases hc44 : (and32 x1 63) = 44
                                                                                              · rw [if_pos hc44] at h
                                                                                                refine r_table (pc := 33) (cs := (c0, s0)) hX (by rw [hc44]; exact R32_lit rfl) 1737 (dk D_L_law_0 21 rfl) (by omega) (by omega) (by rw [hc44]; rfl) rfl ?_
                                                                                                refine r_aloadn (pc := 1737) (cs := (c0, s0)) hX 1 rfl (dk D_L_law_31 13 rfl) ?_
                                                                                                refine r_aloadn (pc := 1738) (cs := (c0, s0)) hX 0 rfl (dk D_L_law_31 14 rfl) ?_
                                                                                                refine r_iloadn (pc := 1739) (cs := (c0, s0)) hX 3 rfl (dk D_L_law_31 15 rfl) ?_
                                                                                                refine r_iconst (pc := 1740) (cs := (c0, s0)) hX (dk D_L_law_31 16 rfl) ?_
                                                                                                refine r_iadd (pc := 1741) (cs := (c0, s0)) hX (dk D_L_law_31 17 rfl) ?_
                                                                                                obtain ⟨x360, hx360, h⟩ := bd_some h
                                                                                                refine r_sls (pc := 1742) (cs := (c0, s0)) hX hsc (R32_w _) hx360 (dk D_L_law_31 18 rfl) (fun qx360 => ?_)
                                                                                                obtain ⟨_, hi, h⟩ := bd_some h
                                                                                                obtain ⟨x361, μ362, hx361, h⟩ := bd2_some h
                                                                                                refine r_invV0 (As := [(0, x360)]) (pc := 1743) (cs := (c0, s0)) hX ml_L_199 (L_T_count qx360 hx361) (isk_u hi) (Rm_law hRm (by decide) ⟨by (try dsimp only); omega, by (try dsimp only); omega⟩) (by decide) rfl (Nat.le_of_ble_eq_true rfl) rfl (dk D_L_law_31 19 rfl) (fun qx361 => ?_)
                                                                                                refine r_aloadn (pc := 1746) (cs := (c0, s0)) hX 2 rfl (dk D_L_law_31 20 rfl) ?_
                                                                                                refine r_aloadn (pc := 1747) (cs := (c0, s0)) hX 0 rfl (dk D_L_law_31 21 rfl) ?_
                                                                                                refine r_iloadn (pc := 1748) (cs := (c0, s0)) hX 3 rfl (dk D_L_law_31 22 rfl) ?_
                                                                                                refine r_iconst (pc := 1749) (cs := (c0, s0)) hX (dk D_L_law_31 23 rfl) ?_
                                                                                                refine r_iadd (pc := 1750) (cs := (c0, s0)) hX (dk D_L_law_31 24 rfl) ?_
                                                                                                obtain ⟨x363, hx363, h⟩ := bd_some h
                                                                                                refine r_sls (pc := 1751) (cs := (c0, s0)) hX hsc (R32_w _) hx363 (dk D_L_law_31 25 rfl) (fun qx363 => ?_)
                                                                                                obtain ⟨_, hi, h⟩ := bd_some h
                                                                                                obtain ⟨x364, μ365, hx364, h⟩ := bd2_some h
                                                                                                refine r_invV0 (As := [(0, x363)]) (pc := 1752) (cs := (c0, s0)) hX ml_L_202 (L_M_count qx363 hx364) (isk_u hi) (Rm_law hRm (by decide) ⟨by (try dsimp only); omega, by (try dsimp only); omega⟩) (by decide) rfl (Nat.le_of_ble_eq_true rfl) rfl (dk D_L_law_31 26 rfl) (fun qx364 => ?_)
                                                                                                refine r_icmp_eq (pc := 1755) (cs := (c0, s0)) hX qx361 qx364 1760 rfl (dk D_L_law_31 27 rfl) (fun hc => ?_) (fun hc => ?_)
                                                                                                · rw [if_pos hc] at h
                                                                                                  refine r_iinc (lv' := [(3, 0, (w32 (v3 + 6))), (0, 2, -100), (1, 2, v1), (2, 2, v2)]) (pc := 1760) (cs := (c0, s0)) hX 3 rfl (by decide) rfl (dk D_L_law_31 30 rfl) ?_
                                                                                                  refine r_goto (pc := 1763) (cs := (c0, s0)) hX 18 rfl (dk D_L_law_31 31 rfl) ?_
                                                                                                  refine r_sub (lv' := [(0, 2, -100), (1, 2, v1), (2, 2, v2), (3, 0, (w32 (v3 + 6)))]) [1, 2, 3, 0] rfl ?_
                                                                                                  exact ih (-100) v1 v2 (w32 (v3 + 6)) μ365 c0 s0 (by omega) rfl (R32_w _) h
                                                                                                · rw [if_neg hc] at h
                                                                                                  refine r_iconst (pc := 1758) (cs := (c0, s0)) hX (dk D_L_law_31 28 rfl) ?_
                                                                                                  cases h
                                                                                              · rw [if_neg hc44] at h
                                                                                                refine r_tableD (pc := 33) (cs := (c0, s0)) hX (R32_t _) 1760 (dk D_L_law_0 21 rfl) (by omega) rfl ?_
                                                                                                refine r_iinc (lv' := [(3, 0, (w32 (v3 + 6))), (0, 2, -100), (1, 2, v1), (2, 2, v2)]) (pc := 1760) (cs := (c0, s0)) hX 3 rfl (by decide) rfl (dk D_L_law_31 30 rfl) ?_
                                                                                                refine r_goto (pc := 1763) (cs := (c0, s0)) hX 18 rfl (dk D_L_law_31 31 rfl) ?_
                                                                                                refine r_sub (lv' := [(0, 2, -100), (1, 2, v1), (2, 2, v2), (3, 0, (w32 (v3 + 6)))]) [1, 2, 3, 0] rfl ?_
                                                                                                exact ih (-100) v1 v2 (w32 (v3 + 6)) μ c0 s0 (by omega) rfl (R32_w _) h
set_option maxRecDepth 100000 in
set_option maxHeartbeats 40000000 in
theorem L_law {E : EX} {X : CX} {res : Int} {μ μe : Mem} {xs : Nat → Int32} {Ls : Nat} (hX : Good E X cL_law 4 "TollsBackLaw") (hZ : LawEnd E X) (hRm : cR X = room_1) (hsc : Scr E X xs Ls) (h : f_law xs Ls μ = some (res, μe)) : At E X cL_law 4 "TollsBackLaw" (0, 0) 0 [(0, 2, (-100))] [] μ := by
  unfold f_law at h
  refine r_new (pc := 0) (cs := (0, 0)) hX nw_L_7 (by rw [hRm]; exact ⟨Nat.le_trans (by (show _ ≤ 22400); omega) rm_c, Nat.le_trans (by (show _ ≤ 1126500); omega) rm_s⟩) (dk D_L_law_0 0 rfl) ?_
  refine r_dup (pc := 3) (cs := (1, 16)) hX rfl (dk D_L_law_0 1 rfl) ?_
  obtain ⟨x1, μ2, hx1, h⟩ := bd2_some h
  refine r_invI (As := []) (pc := 4) (cs := (1, 16)) hX ml_L_9 (L_T_init hx1) nlen_nn (Rm_law hRm (by decide) ⟨by (try dsimp only); omega, by (try dsimp only); omega⟩) (by decide) rfl (Nat.le_of_ble_eq_true rfl) rfl (dk D_L_law_0 2 rfl) ?_
  refine r_astoren (lv' := [(1, 2, (nlen μ)), (0, 2, (-100))]) (pc := 7) (cs := (107, 6355)) hX (by decide) rfl (dk D_L_law_0 3 rfl) ?_
  refine r_new (pc := 8) (cs := (107, 6355)) hX nw_L_10 (by rw [hRm]; exact ⟨Nat.le_trans (by (show _ ≤ 22400); omega) rm_c, Nat.le_trans (by (show _ ≤ 1126500); omega) rm_s⟩) (dk D_L_law_0 4 rfl) ?_
  refine r_dup (pc := 11) (cs := (108, 6407)) hX rfl (dk D_L_law_0 5 rfl) ?_
  obtain ⟨x3, μ4, hx3, h⟩ := bd2_some h
  refine r_invI (As := []) (pc := 12) (cs := (108, 6407)) hX ml_L_12 (L_M_init hx3) nlen_nn (Rm_law hRm (by decide) ⟨by (try dsimp only); omega, by (try dsimp only); omega⟩) (by decide) rfl (Nat.le_of_ble_eq_true rfl) rfl (dk D_L_law_0 6 rfl) ?_
  refine r_astoren (lv' := [(2, 2, (nlen μ2)), (1, 2, (nlen μ)), (0, 2, (-100))]) (pc := 15) (cs := (137, 65637)) hX (by decide) rfl (dk D_L_law_0 7 rfl) ?_
  refine r_iconst (pc := 16) (cs := (137, 65637)) hX (dk D_L_law_0 8 rfl) ?_
  refine r_istoren (lv' := [(3, 0, 0), (2, 2, (nlen μ2)), (1, 2, (nlen μ)), (0, 2, (-100))]) (pc := 17) (cs := (137, 65637)) hX (by decide) rfl (dk D_L_law_0 9 rfl) ?_
  refine r_sub (lv' := [(0, 2, (-100)), (1, 2, (nlen μ)), (2, 2, (nlen μ2)), (3, 0, 0)]) [3, 2, 1, 0] rfl ?_
  refine L_law_L18 hX hZ hRm hsc 600 (-100) (nlen μ) (nlen μ2) 0 μ4 137 65637 (by omega) rfl (R32_lit rfl) h
