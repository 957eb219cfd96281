theorem in_of {C : String} {T : u_T} {N : Nat} (h : ∀ k, k < N → u_lay C T k ∈ gws) : ∀ w ∈ u_ws C T N, w ∈ gws := by
  intro w hw
  obtain ⟨k, hk, rfl⟩ := List.mem_map.mp hw
  exact h k (List.mem_range.mp hk)
theorem inX0 : ∀ w ∈ u_ws RX0 TX0 4, w ∈ gws := in_of fun k hk => match k, hk with
  | 0, _ => g_2 12 (by decide +kernel) rfl
  | 1, _ => g_2 14 (by decide +kernel) rfl
  | 2, _ => g_2 16 (by decide +kernel) rfl
  | 3, _ => g_2 18 (by decide +kernel) rfl
  | n + 4, h => absurd h (by omega)
theorem inX1 : ∀ w ∈ u_ws RX1 TX1 5, w ∈ gws := in_of fun k hk => match k, hk with
  | 0, _ => g_1 85 (by decide +kernel) rfl
  | 1, _ => g_1 87 (by decide +kernel) rfl
  | 2, _ => g_1 89 (by decide +kernel) rfl
  | 3, _ => g_1 91 (by decide +kernel) rfl
  | 4, _ => g_1 93 (by decide +kernel) rfl
  | n + 5, h => absurd h (by omega)
theorem inX2 : ∀ w ∈ u_ws RX2 TX2 12, w ∈ gws := in_of fun k hk => match k, hk with
  | 0, _ => g_1 192 (by decide +kernel) rfl
  | 1, _ => g_1 194 (by decide +kernel) rfl
  | 2, _ => g_1 196 (by decide +kernel) rfl
  | 3, _ => g_1 198 (by decide +kernel) rfl
  | 4, _ => g_1 200 (by decide +kernel) rfl
  | 5, _ => g_1 202 (by decide +kernel) rfl
  | 6, _ => g_1 204 (by decide +kernel) rfl
  | 7, _ => g_1 206 (by decide +kernel) rfl
  | 8, _ => g_1 208 (by decide +kernel) rfl
  | 9, _ => g_1 210 (by decide +kernel) rfl
  | 10, _ => g_1 212 (by decide +kernel) rfl
  | 11, _ => g_1 214 (by decide +kernel) rfl
  | n + 12, h => absurd h (by omega)
theorem inX3 : ∀ w ∈ u_ws RX3 TX3 18, w ∈ gws := in_of fun k hk => match k, hk with
  | 0, _ => g_2 46 (by decide +kernel) rfl
  | 1, _ => g_2 48 (by decide +kernel) rfl
  | 2, _ => g_2 50 (by decide +kernel) rfl
  | 3, _ => g_2 52 (by decide +kernel) rfl
  | 4, _ => g_2 54 (by decide +kernel) rfl
  | 5, _ => g_2 56 (by decide +kernel) rfl
  | 6, _ => g_2 58 (by decide +kernel) rfl
  | 7, _ => g_2 60 (by decide +kernel) rfl
  | 8, _ => g_2 62 (by decide +kernel) rfl
  | 9, _ => g_2 64 (by decide +kernel) rfl
  | 10, _ => g_2 66 (by decide +kernel) rfl
  | 11, _ => g_2 68 (by decide +kernel) rfl
  | 12, _ => g_2 70 (by decide +kernel) rfl
  | 13, _ => g_2 72 (by decide +kernel) rfl
  | 14, _ => g_2 74 (by decide +kernel) rfl
  | 15, _ => g_2 76 (by decide +kernel) rfl
  | 16, _ => g_2 78 (by decide +kernel) rfl
  | 17, _ => g_2 80 (by decide +kernel) rfl
  | n + 18, h => absurd h (by omega)
theorem inX4 : ∀ w ∈ u_ws RX4 TX4 7, w ∈ gws := in_of fun k hk => match k, hk with
  | 0, _ => g_2 134 (by decide +kernel) rfl
  | 1, _ => g_2 136 (by decide +kernel) rfl
  | 2, _ => g_2 138 (by decide +kernel) rfl
  | 3, _ => g_2 140 (by decide +kernel) rfl
  | 4, _ => g_2 142 (by decide +kernel) rfl
  | 5, _ => g_2 144 (by decide +kernel) rfl
  | 6, _ => g_2 146 (by decide +kernel) rfl
  | n + 7, h => absurd h (by omega)
theorem inX5 : ∀ w ∈ u_ws RX5 TX5 7, w ∈ gws := in_of fun k hk => match k, hk with
  | 0, _ => g_1 138 (by decide +kernel) rfl
  | 1, _ => g_1 140 (by decide +kernel) rfl
  | 2, _ => g_1 142 (by decide +kernel) rfl
  | 3, _ => g_1 144 (by decide +kernel) rfl
  | 4, _ => g_1 146 (by decide +kernel) rfl
  | 5, _ => g_1 148 (by decide +kernel) rfl
  | 6, _ => g_1 150 (by decide +kernel) rfl
  | n + 7, h => absurd h (by omega)
theorem inX6 : ∀ w ∈ u_ws RX6 TX6 7, w ∈ gws := in_of fun k hk => match k, hk with
  | 0, _ => g_2 165 (by decide +kernel) rfl
  | 1, _ => g_2 167 (by decide +kernel) rfl
  | 2, _ => g_2 169 (by decide +kernel) rfl
  | 3, _ => g_2 171 (by decide +kernel) rfl
  | 4, _ => g_2 173 (by decide +kernel) rfl
  | 5, _ => g_2 175 (by decide +kernel) rfl
  | 6, _ => g_2 177 (by decide +kernel) rfl
  | n + 7, h => absurd h (by omega)
theorem inX7 : ∀ w ∈ u_ws RX7 TX7 2, w ∈ gws := in_of fun k hk => match k, hk with
  | 0, _ => g_1 236 (by decide +kernel) rfl
  | 1, _ => g_1 238 (by decide +kernel) rfl
  | n + 2, h => absurd h (by omega)
theorem inX8 : ∀ w ∈ u_ws RX8 TX8 4, w ∈ gws := in_of fun k hk => match k, hk with
  | 0, _ => g_1 62 (by decide +kernel) rfl
  | 1, _ => g_1 64 (by decide +kernel) rfl
  | 2, _ => g_1 66 (by decide +kernel) rfl
  | 3, _ => g_1 68 (by decide +kernel) rfl
  | n + 4, h => absurd h (by omega)
theorem inX9 : ∀ w ∈ u_ws RX9 TX9 9, w ∈ gws := in_of fun k hk => match k, hk with
  | 0, _ => g_2 100 (by decide +kernel) rfl
  | 1, _ => g_2 102 (by decide +kernel) rfl
  | 2, _ => g_2 104 (by decide +kernel) rfl
  | 3, _ => g_2 106 (by decide +kernel) rfl
  | 4, _ => g_2 108 (by decide +kernel) rfl
  | 5, _ => g_2 110 (by decide +kernel) rfl
  | 6, _ => g_2 112 (by decide +kernel) rfl
  | 7, _ => g_2 114 (by decide +kernel) rfl
  | 8, _ => g_2 116 (by decide +kernel) rfl
  | n + 9, h => absurd h (by omega)
theorem inX10 : ∀ w ∈ u_ws RX10 TX10 3, w ∈ gws := in_of fun k hk => match k, hk with
  | 0, _ => g_1 109 (by decide +kernel) rfl
  | 1, _ => g_1 111 (by decide +kernel) rfl
  | 2, _ => g_1 113 (by decide +kernel) rfl
  | n + 3, h => absurd h (by omega)
theorem inX11 : ∀ w ∈ u_ws RX11 TX11 14, w ∈ gws := in_of fun k hk => match k, hk with
  | 0, _ => g_2 194 (by decide +kernel) rfl
  | 1, _ => g_2 196 (by decide +kernel) rfl
  | 2, _ => g_2 198 (by decide +kernel) rfl
  | 3, _ => g_2 200 (by decide +kernel) rfl
  | 4, _ => g_2 202 (by decide +kernel) rfl
  | 5, _ => g_2 204 (by decide +kernel) rfl
  | 6, _ => g_2 206 (by decide +kernel) rfl
  | 7, _ => g_2 208 (by decide +kernel) rfl
  | 8, _ => g_2 210 (by decide +kernel) rfl
  | 9, _ => g_2 212 (by decide +kernel) rfl
  | 10, _ => g_2 214 (by decide +kernel) rfl
  | 11, _ => g_2 216 (by decide +kernel) rfl
  | 12, _ => g_2 218 (by decide +kernel) rfl
  | 13, _ => g_2 220 (by decide +kernel) rfl
  | n + 14, h => absurd h (by omega)
theorem inX12 : ∀ w ∈ u_ws RX12 TX12 45, w ∈ gws := in_of fun k hk => match k, hk with
  | 0, _ => g_6 139 (by decide +kernel) rfl
  | 1, _ => g_6 141 (by decide +kernel) rfl
  | 2, _ => g_6 143 (by decide +kernel) rfl
  | 3, _ => g_6 145 (by decide +kernel) rfl
  | 4, _ => g_6 147 (by decide +kernel) rfl
  | 5, _ => g_6 149 (by decide +kernel) rfl
  | 6, _ => g_6 151 (by decide +kernel) rfl
  | 7, _ => g_6 153 (by decide +kernel) rfl
  | 8, _ => g_6 155 (by decide +kernel) rfl
  | 9, _ => g_6 157 (by decide +kernel) rfl
  | 10, _ => g_6 159 (by decide +kernel) rfl
  | 11, _ => g_6 161 (by decide +kernel) rfl
  | 12, _ => g_6 163 (by decide +kernel) rfl
  | 13, _ => g_6 165 (by decide +kernel) rfl
  | 14, _ => g_6 167 (by decide +kernel) rfl
  | 15, _ => g_6 169 (by decide +kernel) rfl
  | 16, _ => g_6 171 (by decide +kernel) rfl
  | 17, _ => g_6 173 (by decide +kernel) rfl
  | 18, _ => g_6 175 (by decide +kernel) rfl
  | 19, _ => g_6 177 (by decide +kernel) rfl
  | 20, _ => g_6 179 (by decide +kernel) rfl
  | 21, _ => g_6 181 (by decide +kernel) rfl
  | 22, _ => g_6 183 (by decide +kernel) rfl
  | 23, _ => g_6 185 (by decide +kernel) rfl
  | 24, _ => g_6 187 (by decide +kernel) rfl
  | 25, _ => g_6 189 (by decide +kernel) rfl
  | 26, _ => g_6 191 (by decide +kernel) rfl
  | 27, _ => g_6 193 (by decide +kernel) rfl
  | 28, _ => g_6 195 (by decide +kernel) rfl
  | 29, _ => g_6 197 (by decide +kernel) rfl
  | 30, _ => g_6 199 (by decide +kernel) rfl
  | 31, _ => g_6 201 (by decide +kernel) rfl
  | 32, _ => g_6 203 (by decide +kernel) rfl
  | 33, _ => g_6 205 (by decide +kernel) rfl
  | 34, _ => g_6 207 (by decide +kernel) rfl
  | 35, _ => g_6 209 (by decide +kernel) rfl
  | 36, _ => g_6 211 (by decide +kernel) rfl
  | 37, _ => g_6 213 (by decide +kernel) rfl
  | 38, _ => g_6 215 (by decide +kernel) rfl
  | 39, _ => g_6 217 (by decide +kernel) rfl
  | 40, _ => g_6 219 (by decide +kernel) rfl
  | 41, _ => g_6 221 (by decide +kernel) rfl
  | 42, _ => g_6 223 (by decide +kernel) rfl
  | 43, _ => g_6 225 (by decide +kernel) rfl
  | 44, _ => g_6 227 (by decide +kernel) rfl
  | n + 45, h => absurd h (by omega)
theorem iniJ6 : Cond.initialized RJ6 ∈ gws := g_1 17 (by decide +kernel) rfl
theorem iniJ9 : Cond.initialized RJ9 ∈ gws := g_1 5 (by decide +kernel) rfl
theorem iniJ7 : Cond.initialized RJ7 ∈ gws := g_1 7 (by decide +kernel) rfl
theorem iniX0 : Cond.initialized RX0 ∈ gws := g_1 12 (by decide +kernel) rfl
theorem iniX11 : Cond.initialized RX11 ∈ gws := g_1 1 (by decide +kernel) rfl
theorem iniX8 : Cond.initialized RX8 ∈ gws := g_1 4 (by decide +kernel) rfl
theorem iniX1 : Cond.initialized RX1 ∈ gws := g_1 3 (by decide +kernel) rfl
theorem iniX10 : Cond.initialized RX10 ∈ gws := g_1 6 (by decide +kernel) rfl
theorem iniX5 : Cond.initialized RX5 ∈ gws := g_1 8 (by decide +kernel) rfl
theorem iniX2 : Cond.initialized RX2 ∈ gws := g_1 2 (by decide +kernel) rfl
theorem iniX3 : Cond.initialized RX3 ∈ gws := g_1 10 (by decide +kernel) rfl
theorem iniX7 : Cond.initialized RX7 ∈ gws := g_1 11 (by decide +kernel) rfl
theorem iniX4 : Cond.initialized RX4 ∈ gws := g_1 14 (by decide +kernel) rfl
theorem iniX6 : Cond.initialized RX6 ∈ gws := g_1 15 (by decide +kernel) rfl
theorem iniX9 : Cond.initialized RX9 ∈ gws := g_1 13 (by decide +kernel) rfl
theorem iniX12 : Cond.initialized RX12 ∈ gws := g_1 16 (by decide +kernel) rfl
def mJ6_compare_7cf53 : qMt := (yJ6_compare_7cf53, cJ6_compare_7cf53, 2, (some .int), 0, 0)
theorem moJ6_compare_7cf53 : mOK mJ6_compare_7cf53 := ⟨show Cond.code yJ6_compare_7cf53 cJ6_compare_7cf53 2 (some .int) ∈ gws from g_3 100 rfl rfl, iniJ6, show RJ6 ≠ _ ∧ RJ6 ≠ _ by decide +kernel, show plainFor yJ6_compare_7cf53 = true by decide +kernel⟩
def mJ6_bitCount_0f7a4 : qMt := (yJ6_bitCount_0f7a4, cJ6_bitCount_0f7a4, 1, (some .int), 0, 0)
theorem moJ6_bitCount_0f7a4 : mOK mJ6_bitCount_0f7a4 := ⟨show Cond.code yJ6_bitCount_0f7a4 cJ6_bitCount_0f7a4 1 (some .int) ∈ gws from g_4 201 rfl rfl, iniJ6, show RJ6 ≠ _ ∧ RJ6 ≠ _ by decide +kernel, show plainFor yJ6_bitCount_0f7a4 = true by decide +kernel⟩
def mJ9_floorDiv_7cf53 : qMt := (yJ9_floorDiv_7cf53, cJ9_floorDiv_7cf53, 3, (some .int), 0, 0)
theorem moJ9_floorDiv_7cf53 : mOK mJ9_floorDiv_7cf53 := ⟨show Cond.code yJ9_floorDiv_7cf53 cJ9_floorDiv_7cf53 3 (some .int) ∈ gws from g_3 113 rfl rfl, iniJ9, show RJ9 ≠ _ ∧ RJ9 ≠ _ by decide +kernel, show plainFor yJ9_floorDiv_7cf53 = true by decide +kernel⟩
def mJ9_floorMod_7cf53 : qMt := (yJ9_floorMod_7cf53, cJ9_floorMod_7cf53, 3, (some .int), 0, 0)
theorem moJ9_floorMod_7cf53 : mOK mJ9_floorMod_7cf53 := ⟨show Cond.code yJ9_floorMod_7cf53 cJ9_floorMod_7cf53 3 (some .int) ∈ gws from g_3 163 rfl rfl, iniJ9, show RJ9 ≠ _ ∧ RJ9 ≠ _ by decide +kernel, show plainFor yJ9_floorMod_7cf53 = true by decide +kernel⟩
def mJ9_abs_0f7a4 : qMt := (yJ9_abs_0f7a4, cJ9_abs_0f7a4, 1, (some .int), 0, 0)
theorem moJ9_abs_0f7a4 : mOK mJ9_abs_0f7a4 := ⟨show Cond.code yJ9_abs_0f7a4 cJ9_abs_0f7a4 1 (some .int) ∈ gws from g_3 14 rfl rfl, iniJ9, show RJ9 ≠ _ ∧ RJ9 ≠ _ by decide +kernel, show plainFor yJ9_abs_0f7a4 = true by decide +kernel⟩
def mJ9_max_7cf53 : qMt := (yJ9_max_7cf53, cJ9_max_7cf53, 2, (some .int), 0, 0)
theorem moJ9_max_7cf53 : mOK mJ9_max_7cf53 := ⟨show Cond.code yJ9_max_7cf53 cJ9_max_7cf53 2 (some .int) ∈ gws from g_1 51 rfl rfl, iniJ9, show RJ9 ≠ _ ∧ RJ9 ≠ _ by decide +kernel, show plainFor yJ9_max_7cf53 = true by decide +kernel⟩
def mJ9_min_7cf53 : qMt := (yJ9_min_7cf53, cJ9_min_7cf53, 2, (some .int), 0, 0)
theorem moJ9_min_7cf53 : mOK mJ9_min_7cf53 := ⟨show Cond.code yJ9_min_7cf53 cJ9_min_7cf53 2 (some .int) ∈ gws from g_3 92 rfl rfl, iniJ9, show RJ9 ≠ _ ∧ RJ9 ≠ _ by decide +kernel, show plainFor yJ9_min_7cf53 = true by decide +kernel⟩
def mJ7_fill_53178 : qMt := (yJ7_fill_53178, cJ7_fill_53178, 4, (none : Option Jvm.ClassFile.FieldType), 0, 0)
theorem moJ7_fill_53178 : mOK mJ7_fill_53178 := ⟨show Cond.code yJ7_fill_53178 cJ7_fill_53178 4 (Option.none : Option Jvm.ClassFile.FieldType) ∈ gws from g_1 104 rfl rfl, iniJ7, show RJ7 ≠ _ ∧ RJ7 ≠ _ by decide +kernel, show plainFor yJ7_fill_53178 = true by decide +kernel⟩
def mX0_mark : qMt := (yX0_mark, cX0_mark, 5, (none : Option Jvm.ClassFile.FieldType), 0, 0)
theorem moX0_mark : mOK mX0_mark := ⟨show Cond.code yX0_mark cX0_mark 5 (Option.none : Option Jvm.ClassFile.FieldType) ∈ gws from g_3 170 rfl rfl, iniX0, show RX0 ≠ _ ∧ RX0 ≠ _ by decide +kernel, show plainFor yX0_mark = true by decide +kernel⟩
def mX0_border : qMt := (yX0_border, cX0_border, 4, (some .int), 1, 22)
theorem moX0_border : mOK mX0_border := ⟨show Cond.code yX0_border cX0_border 4 (some .int) ∈ gws from g_3 177 rfl rfl, iniX0, show RX0 ≠ _ ∧ RX0 ≠ _ by decide +kernel, show plainFor yX0_border = true by decide +kernel⟩
def mX11_between : qMt := (yX11_between, cX11_between, 3, (some .int), 1, 22)
theorem moX11_between : mOK mX11_between := ⟨show Cond.code yX11_between cX11_between 3 (some .int) ∈ gws from g_3 160 rfl rfl, iniX11, show RX11 ≠ _ ∧ RX11 ≠ _ by decide +kernel, show plainFor yX11_between = true by decide +kernel⟩
def mX0_arc : qMt := (yX0_arc, cX0_arc, 11, (none : Option Jvm.ClassFile.FieldType), 2, 45)
theorem moX0_arc : mOK mX0_arc := ⟨show Cond.code yX0_arc cX0_arc 11 (Option.none : Option Jvm.ClassFile.FieldType) ∈ gws from g_3 157 rfl rfl, iniX0, show RX0 ≠ _ ∧ RX0 ≠ _ by decide +kernel, show plainFor yX0_arc = true by decide +kernel⟩
def mX0_root : qMt := (yX0_root, cX0_root, 3, (some .int), 0, 0)
theorem moX0_root : mOK mX0_root := ⟨show Cond.code yX0_root cX0_root 3 (some .int) ∈ gws from g_3 185 rfl rfl, iniX0, show RX0 ≠ _ ∧ RX0 ≠ _ by decide +kernel, show plainFor yX0_root = true by decide +kernel⟩
def mX0_circle : qMt := (yX0_circle, cX0_circle, 8, (none : Option Jvm.ClassFile.FieldType), 1, 24)
theorem moX0_circle : mOK mX0_circle := ⟨show Cond.code yX0_circle cX0_circle 8 (Option.none : Option Jvm.ClassFile.FieldType) ∈ gws from g_3 182 rfl rfl, iniX0, show RX0 ≠ _ ∧ RX0 ≠ _ by decide +kernel, show plainFor yX0_circle = true by decide +kernel⟩
def mX0_bits : qMt := (yX0_bits, cX0_bits, 4, (some .int), 1, 21)
theorem moX0_bits : mOK mX0_bits := ⟨show Cond.code yX0_bits cX0_bits 4 (some .int) ∈ gws from g_3 192 rfl rfl, iniX0, show RX0 ≠ _ ∧ RX0 ≠ _ by decide +kernel, show plainFor yX0_bits = true by decide +kernel⟩
def mX0_column : qMt := (yX0_column, cX0_column, 3, (some .int), 2, 44)
theorem moX0_column : mOK mX0_column := ⟨show Cond.code yX0_column cX0_column 3 (some .int) ∈ gws from g_3 189 rfl rfl, iniX0, show RX0 ≠ _ ∧ RX0 ≠ _ by decide +kernel, show plainFor yX0_column = true by decide +kernel⟩
def mX8_at : qMt := (yX8_at, cX8_at, 3, (some .int), 0, 0)
theorem moX8_at : mOK mX8_at := ⟨show Cond.code yX8_at cX8_at 3 (some .int) ∈ gws from g_3 11 rfl rfl, iniX8, show RX8 ≠ _ ∧ RX8 ≠ _ by decide +kernel, show plainFor yX8_at = true by decide +kernel⟩
def mX1_follow : qMt := (yX1_follow, cX1_follow, 7, (none : Option Jvm.ClassFile.FieldType), 1, 22)
theorem moX1_follow : mOK mX1_follow := ⟨show Cond.code yX1_follow cX1_follow 7 (Option.none : Option Jvm.ClassFile.FieldType) ∈ gws from g_3 7 rfl rfl, iniX1, show RX1 ≠ _ ∧ RX1 ≠ _ by decide +kernel, show plainFor yX1_follow = true by decide +kernel⟩
def mX1_start : qMt := (yX1_start, cX1_start, 4, (none : Option Jvm.ClassFile.FieldType), 2, 48)
theorem moX1_start : mOK mX1_start := ⟨show Cond.code yX1_start cX1_start 4 (Option.none : Option Jvm.ClassFile.FieldType) ∈ gws from g_3 3 rfl rfl, iniX1, show RX1 ≠ _ ∧ RX1 ≠ _ by decide +kernel, show plainFor yX1_start = true by decide +kernel⟩
def mX8_copy : qMt := (yX8_copy, cX8_copy, 2, (none : Option Jvm.ClassFile.FieldType), 1, 60)
theorem moX8_copy : mOK mX8_copy := ⟨show Cond.code yX8_copy cX8_copy 2 (Option.none : Option Jvm.ClassFile.FieldType) ∈ gws from g_4 137 rfl rfl, iniX8, show RX8 ≠ _ ∧ RX8 ≠ _ by decide +kernel, show plainFor yX8_copy = true by decide +kernel⟩
def mX1_copy : qMt := (yX1_copy, cX1_copy, 2, (none : Option Jvm.ClassFile.FieldType), 2, 81)
theorem moX1_copy : mOK mX1_copy := ⟨show Cond.code yX1_copy cX1_copy 2 (Option.none : Option Jvm.ClassFile.FieldType) ∈ gws from g_6 65 rfl rfl, iniX1, show RX1 ≠ _ ∧ RX1 ≠ _ by decide +kernel, show plainFor yX1_copy = true by decide +kernel⟩
def mX10_copy : qMt := (yX10_copy, cX10_copy, 2, (none : Option Jvm.ClassFile.FieldType), 1, 60)
theorem moX10_copy : mOK mX10_copy := ⟨show Cond.code yX10_copy cX10_copy 2 (Option.none : Option Jvm.ClassFile.FieldType) ∈ gws from g_6 71 rfl rfl, iniX10, show RX10 ≠ _ ∧ RX10 ≠ _ by decide +kernel, show plainFor yX10_copy = true by decide +kernel⟩
def mX5_copy : qMt := (yX5_copy, cX5_copy, 2, (none : Option Jvm.ClassFile.FieldType), 2, 81)
theorem moX5_copy : mOK mX5_copy := ⟨show Cond.code yX5_copy cX5_copy 2 (Option.none : Option Jvm.ClassFile.FieldType) ∈ gws from g_4 133 rfl rfl, iniX5, show RX5 ≠ _ ∧ RX5 ≠ _ by decide +kernel, show plainFor yX5_copy = true by decide +kernel⟩
def mX2_copy : qMt := (yX2_copy, cX2_copy, 2, (none : Option Jvm.ClassFile.FieldType), 3, 102)
theorem moX2_copy : mOK mX2_copy := ⟨show Cond.code yX2_copy cX2_copy 2 (Option.none : Option Jvm.ClassFile.FieldType) ∈ gws from g_6 61 rfl rfl, iniX2, show RX2 ≠ _ ∧ RX2 ≠ _ by decide +kernel, show plainFor yX2_copy = true by decide +kernel⟩
def mX3_forget : qMt := (yX3_forget, cX3_forget, 1, (none : Option Jvm.ClassFile.FieldType), 0, 0)
theorem moX3_forget : mOK mX3_forget := ⟨show Cond.code yX3_forget cX3_forget 1 (Option.none : Option Jvm.ClassFile.FieldType) ∈ gws from g_3 23 rfl rfl, iniX3, show RX3 ≠ _ ∧ RX3 ≠ _ by decide +kernel, show plainFor yX3_forget = true by decide +kernel⟩
def mX11_isBoat : qMt := (yX11_isBoat, cX11_isBoat, 1, (some .boolean), 0, 0)
theorem moX11_isBoat : mOK mX11_isBoat := ⟨show Cond.code yX11_isBoat cX11_isBoat 1 (some .boolean) ∈ gws from g_2 239 rfl rfl, iniX11, show RX11 ≠ _ ∧ RX11 ≠ _ by decide +kernel, show plainFor yX11_isBoat = true by decide +kernel⟩
def mX11_isIn : qMt := (yX11_isIn, cX11_isIn, 3, (some .boolean), 0, 0)
theorem moX11_isIn : mOK mX11_isIn := ⟨show Cond.code yX11_isIn cX11_isIn 3 (some .boolean) ∈ gws from g_2 232 rfl rfl, iniX11, show RX11 ≠ _ ∧ RX11 ≠ _ by decide +kernel, show plainFor yX11_isIn = true by decide +kernel⟩
def mX11_isBell : qMt := (yX11_isBell, cX11_isBell, 1, (some .boolean), 1, 22)
theorem moX11_isBell : mOK mX11_isBell := ⟨show Cond.code yX11_isBell cX11_isBell 1 (some .boolean) ∈ gws from g_3 38 rfl rfl, iniX11, show RX11 ≠ _ ∧ RX11 ≠ _ by decide +kernel, show plainFor yX11_isBell = true by decide +kernel⟩
def mX3_isAnswered : qMt := (yX3_isAnswered, cX3_isAnswered, 12, (some .boolean), 3, 75)
theorem moX3_isAnswered : mOK mX3_isAnswered := ⟨show Cond.code yX3_isAnswered cX3_isAnswered 12 (some .boolean) ∈ gws from g_3 150 rfl rfl, iniX3, show RX3 ≠ _ ∧ RX3 ≠ _ by decide +kernel, show plainFor yX3_isAnswered = true by decide +kernel⟩
def mX8_isFull : qMt := (yX8_isFull, cX8_isFull, 1, (some .boolean), 0, 0)
theorem moX8_isFull : mOK mX8_isFull := ⟨show Cond.code yX8_isFull cX8_isFull 1 (some .boolean) ∈ gws from g_3 46 rfl rfl, iniX8, show RX8 ≠ _ ∧ RX8 ≠ _ by decide +kernel, show plainFor yX8_isFull = true by decide +kernel⟩
def mX8_put : qMt := (yX8_put, cX8_put, 3, (none : Option Jvm.ClassFile.FieldType), 0, 0)
theorem moX8_put : mOK mX8_put := ⟨show Cond.code yX8_put cX8_put 3 (Option.none : Option Jvm.ClassFile.FieldType) ∈ gws from g_3 55 rfl rfl, iniX8, show RX8 ≠ _ ∧ RX8 ≠ _ by decide +kernel, show plainFor yX8_put = true by decide +kernel⟩
def mX8_add : qMt := (yX8_add, cX8_add, 6, (some .int), 1, 22)
theorem moX8_add : mOK mX8_add := ⟨show Cond.code yX8_add cX8_add 6 (some .int) ∈ gws from g_3 50 rfl rfl, iniX8, show RX8 ≠ _ ∧ RX8 ≠ _ by decide +kernel, show plainFor yX8_add = true by decide +kernel⟩
def mX3_sortKind : qMt := (yX3_sortKind, cX3_sortKind, 8, (some .int), 4, 106)
theorem moX3_sortKind : mOK mX3_sortKind := ⟨show Cond.code yX3_sortKind cX3_sortKind 8 (some .int) ∈ gws from g_3 145 rfl rfl, iniX3, show RX3 ≠ _ ∧ RX3 ≠ _ by decide +kernel, show plainFor yX3_sortKind = true by decide +kernel⟩
def mX3_sortOut : qMt := (yX3_sortOut, cX3_sortOut, 1, (none : Option Jvm.ClassFile.FieldType), 5, 133)
theorem moX3_sortOut : mOK mX3_sortOut := ⟨show Cond.code yX3_sortOut cX3_sortOut 1 (Option.none : Option Jvm.ClassFile.FieldType) ∈ gws from g_3 141 rfl rfl, iniX3, show RX3 ≠ _ ∧ RX3 ≠ _ by decide +kernel, show plainFor yX3_sortOut = true by decide +kernel⟩
def mX10_isNear : qMt := (yX10_isNear, cX10_isNear, 2, (some .boolean), 0, 0)
theorem moX10_isNear : mOK mX10_isNear := ⟨show Cond.code yX10_isNear cX10_isNear 2 (some .boolean) ∈ gws from g_3 103 rfl rfl, iniX10, show RX10 ≠ _ ∧ RX10 ≠ _ by decide +kernel, show plainFor yX10_isNear = true by decide +kernel⟩
def mX10_findBends : qMt := (yX10_findBends, cX10_findBends, 5, (none : Option Jvm.ClassFile.FieldType), 1, 21)
theorem moX10_findBends : mOK mX10_findBends := ⟨show Cond.code yX10_findBends cX10_findBends 5 (Option.none : Option Jvm.ClassFile.FieldType) ∈ gws from g_3 96 rfl rfl, iniX10, show RX10 ≠ _ ∧ RX10 ≠ _ by decide +kernel, show plainFor yX10_findBends = true by decide +kernel⟩
def mX10_sendRays : qMt := (yX10_sendRays, cX10_sendRays, 9, (none : Option Jvm.ClassFile.FieldType), 2, 45)
theorem moX10_sendRays : mOK mX10_sendRays := ⟨show Cond.code yX10_sendRays cX10_sendRays 9 (Option.none : Option Jvm.ClassFile.FieldType) ∈ gws from g_3 89 rfl rfl, iniX10, show RX10 ≠ _ ∧ RX10 ≠ _ by decide +kernel, show plainFor yX10_sendRays = true by decide +kernel⟩
def mX7_put : qMt := (yX7_put, cX7_put, 3, (none : Option Jvm.ClassFile.FieldType), 0, 0)
theorem moX7_put : mOK mX7_put := ⟨show Cond.code yX7_put cX7_put 3 (Option.none : Option Jvm.ClassFile.FieldType) ∈ gws from g_4 164 rfl rfl, iniX7, show RX7 ≠ _ ∧ RX7 ≠ _ by decide +kernel, show plainFor yX7_put = true by decide +kernel⟩
def mX7_settle : qMt := (yX7_settle, cX7_settle, 3, (none : Option Jvm.ClassFile.FieldType), 1, 20)
theorem moX7_settle : mOK mX7_settle := ⟨show Cond.code yX7_settle cX7_settle 3 (Option.none : Option Jvm.ClassFile.FieldType) ∈ gws from g_4 168 rfl rfl, iniX7, show RX7 ≠ _ ∧ RX7 ≠ _ by decide +kernel, show plainFor yX7_settle = true by decide +kernel⟩
def mX3_tune : qMt := (yX3_tune, cX3_tune, 3, (none : Option Jvm.ClassFile.FieldType), 3, 73)
theorem moX3_tune : mOK mX3_tune := ⟨show Cond.code yX3_tune cX3_tune 3 (Option.none : Option Jvm.ClassFile.FieldType) ∈ gws from g_4 158 rfl rfl, iniX3, show RX3 ≠ _ ∧ RX3 ≠ _ by decide +kernel, show plainFor yX3_tune = true by decide +kernel⟩
def mX3_eastOf : qMt := (yX3_eastOf, cX3_eastOf, 2, (some .int), 0, 0)
theorem moX3_eastOf : mOK mX3_eastOf := ⟨show Cond.code yX3_eastOf cX3_eastOf 2 (some .int) ∈ gws from g_4 185 rfl rfl, iniX3, show RX3 ≠ _ ∧ RX3 ≠ _ by decide +kernel, show plainFor yX3_eastOf = true by decide +kernel⟩
def mX3_lowOf : qMt := (yX3_lowOf, cX3_lowOf, 2, (some .int), 0, 0)
theorem moX3_lowOf : mOK mX3_lowOf := ⟨show Cond.code yX3_lowOf cX3_lowOf 2 (some .int) ∈ gws from g_4 188 rfl rfl, iniX3, show RX3 ≠ _ ∧ RX3 ≠ _ by decide +kernel, show plainFor yX3_lowOf = true by decide +kernel⟩
def mX7_column : qMt := (yX7_column, cX7_column, 5, (some .int), 2, 44)
theorem moX7_column : mOK mX7_column := ⟨show Cond.code yX7_column cX7_column 5 (some .int) ∈ gws from g_4 192 rfl rfl, iniX7, show RX7 ≠ _ ∧ RX7 ≠ _ by decide +kernel, show plainFor yX7_column = true by decide +kernel⟩
def mX3_look : qMt := (yX3_look, cX3_look, 10, (none : Option Jvm.ClassFile.FieldType), 3, 75)
theorem moX3_look : mOK mX3_look := ⟨show Cond.code yX3_look cX3_look 10 (Option.none : Option Jvm.ClassFile.FieldType) ∈ gws from g_4 182 rfl rfl, iniX3, show RX3 ≠ _ ∧ RX3 ≠ _ by decide +kernel, show plainFor yX3_look = true by decide +kernel⟩
def mX3_countFrom : qMt := (yX3_countFrom, cX3_countFrom, 6, (some .int), 1, 20)
theorem moX3_countFrom : mOK mX3_countFrom := ⟨show Cond.code yX3_countFrom cX3_countFrom 6 (some .int) ∈ gws from g_4 198 rfl rfl, iniX3, show RX3 ≠ _ ∧ RX3 ≠ _ by decide +kernel, show plainFor yX3_countFrom = true by decide +kernel⟩
def mX3_narrow : qMt := (yX3_narrow, cX3_narrow, 8, (some .boolean), 4, 104)
theorem moX3_narrow : mOK mX3_narrow := ⟨show Cond.code yX3_narrow cX3_narrow 8 (some .boolean) ∈ gws from g_4 178 rfl rfl, iniX3, show RX3 ≠ _ ∧ RX3 ≠ _ by decide +kernel, show plainFor yX3_narrow = true by decide +kernel⟩
def mX3_plotSheaf : qMt := (yX3_plotSheaf, cX3_plotSheaf, 6, (none : Option Jvm.ClassFile.FieldType), 5, 131)
theorem moX3_plotSheaf : mOK mX3_plotSheaf := ⟨show Cond.code yX3_plotSheaf cX3_plotSheaf 6 (Option.none : Option Jvm.ClassFile.FieldType) ∈ gws from g_4 174 rfl rfl, iniX3, show RX3 ≠ _ ∧ RX3 ≠ _ by decide +kernel, show plainFor yX3_plotSheaf = true by decide +kernel⟩
def mX3_plot : qMt := (yX3_plot, cX3_plot, 2, (none : Option Jvm.ClassFile.FieldType), 6, 156)
theorem moX3_plot : mOK mX3_plot := ⟨show Cond.code yX3_plot cX3_plot 2 (Option.none : Option Jvm.ClassFile.FieldType) ∈ gws from g_4 153 rfl rfl, iniX3, show RX3 ≠ _ ∧ RX3 ≠ _ by decide +kernel, show plainFor yX3_plot = true by decide +kernel⟩
def mX3_codeOf : qMt := (yX3_codeOf, cX3_codeOf, 3, (some .int), 0, 0)
theorem moX3_codeOf : mOK mX3_codeOf := ⟨show Cond.code yX3_codeOf cX3_codeOf 3 (some .int) ∈ gws from g_5 51 rfl rfl, iniX3, show RX3 ≠ _ ∧ RX3 ≠ _ by decide +kernel, show plainFor yX3_codeOf = true by decide +kernel⟩
def mX3_pick : qMt := (yX3_pick, cX3_pick, 9, (some .int), 2, 45)
theorem moX3_pick : mOK mX3_pick := ⟨show Cond.code yX3_pick cX3_pick 9 (some .int) ∈ gws from g_4 212 rfl rfl, iniX3, show RX3 ≠ _ ∧ RX3 ≠ _ by decide +kernel, show plainFor yX3_pick = true by decide +kernel⟩
def mX3_highestBit : qMt := (yX3_highestBit, cX3_highestBit, 3, (some .int), 1, 20)
theorem moX3_highestBit : mOK mX3_highestBit := ⟨show Cond.code yX3_highestBit cX3_highestBit 3 (some .int) ∈ gws from g_4 223 rfl rfl, iniX3, show RX3 ≠ _ ∧ RX3 ≠ _ by decide +kernel, show plainFor yX3_highestBit = true by decide +kernel⟩
def mX3_lowestBit : qMt := (yX3_lowestBit, cX3_lowestBit, 1, (some .int), 1, 20)
theorem moX3_lowestBit : mOK mX3_lowestBit := ⟨show Cond.code yX3_lowestBit cX3_lowestBit 1 (some .int) ∈ gws from g_4 226 rfl rfl, iniX3, show RX3 ≠ _ ∧ RX3 ≠ _ by decide +kernel, show plainFor yX3_lowestBit = true by decide +kernel⟩
def mX3_edge : qMt := (yX3_edge, cX3_edge, 7, (some .int), 2, 42)
theorem moX3_edge : mOK mX3_edge := ⟨show Cond.code yX3_edge cX3_edge 7 (some .int) ∈ gws from g_4 220 rfl rfl, iniX3, show RX3 ≠ _ ∧ RX3 ≠ _ by decide +kernel, show plainFor yX3_edge = true by decide +kernel⟩
def mX3_inSquare : qMt := (yX3_inSquare, cX3_inSquare, 8, (some .int), 2, 44)
theorem moX3_inSquare : mOK mX3_inSquare := ⟨show Cond.code yX3_inSquare cX3_inSquare 8 (some .int) ∈ gws from g_5 29 rfl rfl, iniX3, show RX3 ≠ _ ∧ RX3 ≠ _ by decide +kernel, show plainFor yX3_inSquare = true by decide +kernel⟩
def mX11_direction : qMt := (yX11_direction, cX11_direction, 2, (some .int), 1, 22)
theorem moX11_direction : mOK mX11_direction := ⟨show Cond.code yX11_direction cX11_direction 2 (some .int) ∈ gws from g_3 110 rfl rfl, iniX11, show RX11 ≠ _ ∧ RX11 ≠ _ by decide +kernel, show plainFor yX11_direction = true by decide +kernel⟩
def mX3_groupLane : qMt := (yX3_groupLane, cX3_groupLane, 6, (none : Option Jvm.ClassFile.FieldType), 2, 43)
theorem moX3_groupLane : mOK mX3_groupLane := ⟨show Cond.code yX3_groupLane cX3_groupLane 6 (Option.none : Option Jvm.ClassFile.FieldType) ∈ gws from g_5 94 rfl rfl, iniX3, show RX3 ≠ _ ∧ RX3 ≠ _ by decide +kernel, show plainFor yX3_groupLane = true by decide +kernel⟩
def mX3_largestGroup : qMt := (yX3_largestGroup, cX3_largestGroup, 6, (some .int), 3, 68)
theorem moX3_largestGroup : mOK mX3_largestGroup := ⟨show Cond.code yX3_largestGroup cX3_largestGroup 6 (some .int) ∈ gws from g_5 90 rfl rfl, iniX3, show RX3 ≠ _ ∧ RX3 ≠ _ by decide +kernel, show plainFor yX3_largestGroup = true by decide +kernel⟩
def mX5_joinTwo : qMt := (yX5_joinTwo, cX5_joinTwo, 8, (some .boolean), 0, 0)
theorem moX5_joinTwo : mOK mX5_joinTwo := ⟨show Cond.code yX5_joinTwo cX5_joinTwo 8 (some .boolean) ∈ gws from g_5 144 rfl rfl, iniX5, show RX5 ≠ _ ∧ RX5 ≠ _ by decide +kernel, show plainFor yX5_joinTwo = true by decide +kernel⟩
def mX5_lay : qMt := (yX5_lay, cX5_lay, 3, (none : Option Jvm.ClassFile.FieldType), 0, 0)
theorem moX5_lay : mOK mX5_lay := ⟨show Cond.code yX5_lay cX5_lay 3 (Option.none : Option Jvm.ClassFile.FieldType) ∈ gws from g_5 139 rfl rfl, iniX5, show RX5 ≠ _ ∧ RX5 ≠ _ by decide +kernel, show plainFor yX5_lay = true by decide +kernel⟩
def mX5_work : qMt := (yX5_work, cX5_work, 5, (some .boolean), 1, 27)
theorem moX5_work : mOK mX5_work := ⟨show Cond.code yX5_work cX5_work 5 (some .boolean) ∈ gws from g_5 134 rfl rfl, iniX5, show RX5 ≠ _ ∧ RX5 ≠ _ by decide +kernel, show plainFor yX5_work = true by decide +kernel⟩
def mX5_holds : qMt := (yX5_holds, cX5_holds, 5, (some .boolean), 2, 51)
theorem moX5_holds : mOK mX5_holds := ⟨show Cond.code yX5_holds cX5_holds 5 (some .boolean) ∈ gws from g_5 130 rfl rfl, iniX5, show RX5 ≠ _ ∧ RX5 ≠ _ by decide +kernel, show plainFor yX5_holds = true by decide +kernel⟩
def mX5_answer : qMt := (yX5_answer, cX5_answer, 4, (some .int), 3, 75)
theorem moX5_answer : mOK mX5_answer := ⟨show Cond.code yX5_answer cX5_answer 4 (some .int) ∈ gws from g_5 125 rfl rfl, iniX5, show RX5 ≠ _ ∧ RX5 ≠ _ by decide +kernel, show plainFor yX5_answer = true by decide +kernel⟩
def mX5_isLoud : qMt := (yX5_isLoud, cX5_isLoud, 2, (some .boolean), 4, 98)
theorem moX5_isLoud : mOK mX5_isLoud := ⟨show Cond.code yX5_isLoud cX5_isLoud 2 (some .boolean) ∈ gws from g_5 121 rfl rfl, iniX5, show RX5 ≠ _ ∧ RX5 ≠ _ by decide +kernel, show plainFor yX5_isLoud = true by decide +kernel⟩
def mX5_pose : qMt := (yX5_pose, cX5_pose, 5, (none : Option Jvm.ClassFile.FieldType), 0, 0)
theorem moX5_pose : mOK mX5_pose := ⟨show Cond.code yX5_pose cX5_pose 5 (Option.none : Option Jvm.ClassFile.FieldType) ∈ gws from g_5 117 rfl rfl, iniX5, show RX5 ≠ _ ∧ RX5 ≠ _ by decide +kernel, show plainFor yX5_pose = true by decide +kernel⟩
def mX3_hearers : qMt := (yX3_hearers, cX3_hearers, 10, (some .int), 5, 119)
theorem moX3_hearers : mOK mX3_hearers := ⟨show Cond.code yX3_hearers cX3_hearers 10 (some .int) ∈ gws from g_5 113 rfl rfl, iniX3, show RX3 ≠ _ ∧ RX3 ≠ _ by decide +kernel, show plainFor yX3_hearers = true by decide +kernel⟩
def mX3_freshHeard : qMt := (yX3_freshHeard, cX3_freshHeard, 6, (some .int), 1, 22)
theorem moX3_freshHeard : mOK mX3_freshHeard := ⟨show Cond.code yX3_freshHeard cX3_freshHeard 6 (some .int) ∈ gws from g_5 208 rfl rfl, iniX3, show RX3 ≠ _ ∧ RX3 ≠ _ by decide +kernel, show plainFor yX3_freshHeard = true by decide +kernel⟩
def mX3_crossings : qMt := (yX3_crossings, cX3_crossings, 8, (some .int), 4, 104)
theorem moX3_crossings : mOK mX3_crossings := ⟨show Cond.code yX3_crossings cX3_crossings 8 (some .int) ∈ gws from g_5 212 rfl rfl, iniX3, show RX3 ≠ _ ∧ RX3 ≠ _ by decide +kernel, show plainFor yX3_crossings = true by decide +kernel⟩
def mX3_crossAll : qMt := (yX3_crossAll, cX3_crossAll, 6, (some .int), 5, 131)
theorem moX3_crossAll : mOK mX3_crossAll := ⟨show Cond.code yX3_crossAll cX3_crossAll 6 (some .int) ∈ gws from g_5 220 rfl rfl, iniX3, show RX3 ≠ _ ∧ RX3 ≠ _ by decide +kernel, show plainFor yX3_crossAll = true by decide +kernel⟩
def mX3_keepPair : qMt := (yX3_keepPair, cX3_keepPair, 3, (none : Option Jvm.ClassFile.FieldType), 0, 0)
theorem moX3_keepPair : mOK mX3_keepPair := ⟨show Cond.code yX3_keepPair cX3_keepPair 3 (Option.none : Option Jvm.ClassFile.FieldType) ∈ gws from g_5 235 rfl rfl, iniX3, show RX3 ≠ _ ∧ RX3 ≠ _ by decide +kernel, show plainFor yX3_keepPair = true by decide +kernel⟩
def mX3_ways (d : Nat) : qMt := (yX3_ways, cX3_ways, 6, (some .int), 2 * (d + 1), 29 * (d + 1))
theorem moX3_ways (d : Nat) : mOK (mX3_ways d) := ⟨show Cond.code yX3_ways cX3_ways 6 (some .int) ∈ gws from g_5 226 rfl rfl, iniX3, show RX3 ≠ _ ∧ RX3 ≠ _ by decide +kernel, show plainFor yX3_ways = true by decide +kernel⟩
def mX4_joinOne (d : Nat) : qMt := (yX4_joinOne, cX4_joinOne, 5, (some .boolean), 2 * (d + 1), 28 * (d + 1))
theorem moX4_joinOne (d : Nat) : mOK (mX4_joinOne d) := ⟨show Cond.code yX4_joinOne cX4_joinOne 5 (some .boolean) ∈ gws from g_5 179 rfl rfl, iniX4, show RX4 ≠ _ ∧ RX4 ≠ _ by decide +kernel, show plainFor yX4_joinOne = true by decide +kernel⟩
def mX4_join : qMt := (yX4_join, cX4_join, 4, (some .int), 55, 780)
theorem moX4_join : mOK mX4_join := ⟨show Cond.code yX4_join cX4_join 4 (some .int) ∈ gws from g_5 174 rfl rfl, iniX4, show RX4 ≠ _ ∧ RX4 ≠ _ by decide +kernel, show plainFor yX4_join = true by decide +kernel⟩
def mX4_nextsOf : qMt := (yX4_nextsOf, cX4_nextsOf, 7, (some .int), 2, 44)
theorem moX4_nextsOf : mOK mX4_nextsOf := ⟨show Cond.code yX4_nextsOf cX4_nextsOf 7 (some .int) ∈ gws from g_5 169 rfl rfl, iniX4, show RX4 ≠ _ ∧ RX4 ≠ _ by decide +kernel, show plainFor yX4_nextsOf = true by decide +kernel⟩
def mX4_draw : qMt := (yX4_draw, cX4_draw, 3, (none : Option Jvm.ClassFile.FieldType), 56, 803)
theorem moX4_draw : mOK mX4_draw := ⟨show Cond.code yX4_draw cX4_draw 3 (Option.none : Option Jvm.ClassFile.FieldType) ∈ gws from g_5 164 rfl rfl, iniX4, show RX4 ≠ _ ∧ RX4 ≠ _ by decide +kernel, show plainFor yX4_draw = true by decide +kernel⟩
def mX4_canBe : qMt := (yX4_canBe, cX4_canBe, 4, (some .boolean), 56, 803)
theorem moX4_canBe : mOK mX4_canBe := ⟨show Cond.code yX4_canBe cX4_canBe 4 (some .boolean) ∈ gws from g_5 191 rfl rfl, iniX4, show RX4 ≠ _ ∧ RX4 ≠ _ by decide +kernel, show plainFor yX4_canBe = true by decide +kernel⟩
def mX4_firstNext : qMt := (yX4_firstNext, cX4_firstNext, 5, (some .int), 57, 826)
theorem moX4_firstNext : mOK mX4_firstNext := ⟨show Cond.code yX4_firstNext cX4_firstNext 5 (some .int) ∈ gws from g_5 187 rfl rfl, iniX4, show RX4 ≠ _ ∧ RX4 ≠ _ by decide +kernel, show plainFor yX4_firstNext = true by decide +kernel⟩
def mX4_certainty : qMt := (yX4_certainty, cX4_certainty, 3, (some .int), 57, 826)
theorem moX4_certainty : mOK mX4_certainty := ⟨show Cond.code yX4_certainty cX4_certainty 3 (some .int) ∈ gws from g_5 200 rfl rfl, iniX4, show RX4 ≠ _ ∧ RX4 ≠ _ by decide +kernel, show plainFor yX4_certainty = true by decide +kernel⟩
def mX5_clear : qMt := (yX5_clear, cX5_clear, 1, (none : Option Jvm.ClassFile.FieldType), 0, 0)
theorem moX5_clear : mOK mX5_clear := ⟨show Cond.code yX5_clear cX5_clear 1 (Option.none : Option Jvm.ClassFile.FieldType) ∈ gws from g_3 239 rfl rfl, iniX5, show RX5 ≠ _ ∧ RX5 ≠ _ by decide +kernel, show plainFor yX5_clear = true by decide +kernel⟩
def mX5_add : qMt := (yX5_add, cX5_add, 3, (none : Option Jvm.ClassFile.FieldType), 0, 0)
theorem moX5_add : mOK mX5_add := ⟨show Cond.code yX5_add cX5_add 3 (Option.none : Option Jvm.ClassFile.FieldType) ∈ gws from g_4 107 rfl rfl, iniX5, show RX5 ≠ _ ∧ RX5 ≠ _ by decide +kernel, show plainFor yX5_add = true by decide +kernel⟩
def mX5_leadHere : qMt := (yX5_leadHere, cX5_leadHere, 2, (none : Option Jvm.ClassFile.FieldType), 0, 0)
theorem moX5_leadHere : mOK mX5_leadHere := ⟨show Cond.code yX5_leadHere cX5_leadHere 2 (Option.none : Option Jvm.ClassFile.FieldType) ∈ gws from g_4 112 rfl rfl, iniX5, show RX5 ≠ _ ∧ RX5 ≠ _ by decide +kernel, show plainFor yX5_leadHere = true by decide +kernel⟩
def mX6_isSign : qMt := (yX6_isSign, cX6_isSign, 2, (some .boolean), 0, 0)
theorem moX6_isSign : mOK mX6_isSign := ⟨show Cond.code yX6_isSign cX6_isSign 2 (some .boolean) ∈ gws from g_4 82 rfl rfl, iniX6, show RX6 ≠ _ ∧ RX6 ≠ _ by decide +kernel, show plainFor yX6_isSign = true by decide +kernel⟩
def mX6_kindAt : qMt := (yX6_kindAt, cX6_kindAt, 2, (some .int), 0, 0)
theorem moX6_kindAt : mOK mX6_kindAt := ⟨show Cond.code yX6_kindAt cX6_kindAt 2 (some .int) ∈ gws from g_4 7 rfl rfl, iniX6, show RX6 ≠ _ ∧ RX6 ≠ _ by decide +kernel, show plainFor yX6_kindAt = true by decide +kernel⟩
def mX6_move : qMt := (yX6_move, cX6_move, 2, (none : Option Jvm.ClassFile.FieldType), 1, 21)
theorem moX6_move : mOK mX6_move := ⟨show Cond.code yX6_move cX6_move 2 (Option.none : Option Jvm.ClassFile.FieldType) ∈ gws from g_4 3 rfl rfl, iniX6, show RX6 ≠ _ ∧ RX6 ≠ _ by decide +kernel, show plainFor yX6_move = true by decide +kernel⟩
def mX6_isWord : qMt := (yX6_isWord, cX6_isWord, 3, (some .boolean), 6, 200)
theorem moX6_isWord : mOK mX6_isWord := ⟨show Cond.code yX6_isWord cX6_isWord 3 (some .boolean) ∈ gws from g_4 16 rfl rfl, iniX6, show RX6 ≠ _ ∧ RX6 ≠ _ by decide +kernel, show plainFor yX6_isWord = true by decide +kernel⟩
def mX6_number : qMt := (yX6_number, cX6_number, 3, (some .int), 0, 0)
theorem moX6_number : mOK mX6_number := ⟨show Cond.code yX6_number cX6_number 3 (some .int) ∈ gws from g_4 117 rfl rfl, iniX6, show RX6 ≠ _ ∧ RX6 ≠ _ by decide +kernel, show plainFor yX6_number = true by decide +kernel⟩
def mX6_wordAsked : qMt := (yX6_wordAsked, cX6_wordAsked, 1, (some .int), 7, 222)
theorem moX6_wordAsked : mOK mX6_wordAsked := ⟨show Cond.code yX6_wordAsked cX6_wordAsked 1 (some .int) ∈ gws from g_4 121 rfl rfl, iniX6, show RX6 ≠ _ ∧ RX6 ≠ _ by decide +kernel, show plainFor yX6_wordAsked = true by decide +kernel⟩
def mX6_readPart (d : Nat) : qMt := (yX6_readPart, cX6_readPart, 4, (some .boolean), 16 * (d + 1) + 8, 406 * (d + 1) + 242)
theorem moX6_readPart (d : Nat) : mOK (mX6_readPart d) := ⟨show Cond.code yX6_readPart cX6_readPart 4 (some .boolean) ∈ gws from g_4 78 rfl rfl, iniX6, show RX6 ≠ _ ∧ RX6 ≠ _ by decide +kernel, show plainFor yX6_readPart = true by decide +kernel⟩
def mX6_readTerm (d : Nat) : qMt := (yX6_readTerm, cX6_readTerm, 4, (some .boolean), 16 * (d + 1) + 9, 406 * (d + 1) + 265)
theorem moX6_readTerm (d : Nat) : mOK (mX6_readTerm d) := ⟨show Cond.code yX6_readTerm cX6_readTerm 4 (some .boolean) ∈ gws from g_4 74 rfl rfl, iniX6, show RX6 ≠ _ ∧ RX6 ≠ _ by decide +kernel, show plainFor yX6_readTerm = true by decide +kernel⟩
def mX6_readSum (d : Nat) : qMt := (yX6_readSum, cX6_readSum, 4, (some .boolean), 16 * (d + 1) + 10, 406 * (d + 1) + 288)
theorem moX6_readSum (d : Nat) : mOK (mX6_readSum d) := ⟨show Cond.code yX6_readSum cX6_readSum 4 (some .boolean) ∈ gws from g_4 70 rfl rfl, iniX6, show RX6 ≠ _ ∧ RX6 ≠ _ by decide +kernel, show plainFor yX6_readSum = true by decide +kernel⟩
def mX6_readComparison (d : Nat) : qMt := (yX6_readComparison, cX6_readComparison, 3, (some .boolean), 16 * (d + 1) + 11, 406 * (d + 1) + 311)
theorem moX6_readComparison (d : Nat) : mOK (mX6_readComparison d) := ⟨show Cond.code yX6_readComparison cX6_readComparison 3 (some .boolean) ∈ gws from g_4 103 rfl rfl, iniX6, show RX6 ≠ _ ∧ RX6 ≠ _ by decide +kernel, show plainFor yX6_readComparison = true by decide +kernel⟩
def mX6_readPlain (d : Nat) : qMt := (yX6_readPlain, cX6_readPlain, 4, (some .boolean), 16 * (d + 1) + 12, 406 * (d + 1) + 333)
theorem moX6_readPlain (d : Nat) : mOK (mX6_readPlain d) := ⟨show Cond.code yX6_readPlain cX6_readPlain 4 (some .boolean) ∈ gws from g_4 98 rfl rfl, iniX6, show RX6 ≠ _ ∧ RX6 ≠ _ by decide +kernel, show plainFor yX6_readPlain = true by decide +kernel⟩
def mX6_readBoth (d : Nat) : qMt := (yX6_readBoth, cX6_readBoth, 4, (some .boolean), 16 * (d + 1) + 13, 406 * (d + 1) + 356)
theorem moX6_readBoth (d : Nat) : mOK (mX6_readBoth d) := ⟨show Cond.code yX6_readBoth cX6_readBoth 4 (some .boolean) ∈ gws from g_4 94 rfl rfl, iniX6, show RX6 ≠ _ ∧ RX6 ≠ _ by decide +kernel, show plainFor yX6_readBoth = true by decide +kernel⟩
def mX6_readTest (d : Nat) : qMt := (yX6_readTest, cX6_readTest, 4, (some .boolean), 16 * (d + 1) + 14, 406 * (d + 1) + 379)
theorem moX6_readTest (d : Nat) : mOK (mX6_readTest d) := ⟨show Cond.code yX6_readTest cX6_readTest 4 (some .boolean) ∈ gws from g_4 90 rfl rfl, iniX6, show RX6 ≠ _ ∧ RX6 ≠ _ by decide +kernel, show plainFor yX6_readTest = true by decide +kernel⟩
def mX6_readInner (d : Nat) : qMt := (yX6_readInner, cX6_readInner, 4, (some .boolean), 16 * (d + 1), 406 * (d + 1))
theorem moX6_readInner (d : Nat) : mOK (mX6_readInner d) := ⟨show Cond.code yX6_readInner cX6_readInner 4 (some .boolean) ∈ gws from g_4 86 rfl rfl, iniX6, show RX6 ≠ _ ∧ RX6 ≠ _ by decide +kernel, show plainFor yX6_readInner = true by decide +kernel⟩
def mX6_readClause : qMt := (yX6_readClause, cX6_readClause, 4, (some .boolean), 191, 4868)
theorem moX6_readClause : mOK mX6_readClause := ⟨show Cond.code yX6_readClause cX6_readClause 4 (some .boolean) ∈ gws from g_4 11 rfl rfl, iniX6, show RX6 ≠ _ ∧ RX6 ≠ _ by decide +kernel, show plainFor yX6_readClause = true by decide +kernel⟩
def mX6_read : qMt := (yX6_read, cX6_read, 4, (some .int), 192, 4891)
theorem moX6_read : mOK mX6_read := ⟨show Cond.code yX6_read cX6_read 4 (some .int) ∈ gws from g_3 233 rfl rfl, iniX6, show RX6 ≠ _ ∧ RX6 ≠ _ by decide +kernel, show plainFor yX6_read = true by decide +kernel⟩
def mX9_forget : qMt := (yX9_forget, cX9_forget, 1, (none : Option Jvm.ClassFile.FieldType), 0, 0)
theorem moX9_forget : mOK mX9_forget := ⟨show Cond.code yX9_forget cX9_forget 1 (Option.none : Option Jvm.ClassFile.FieldType) ∈ gws from g_3 27 rfl rfl, iniX9, show RX9 ≠ _ ∧ RX9 ≠ _ by decide +kernel, show plainFor yX9_forget = true by decide +kernel⟩
def mX9_noteFewest : qMt := (yX9_noteFewest, cX9_noteFewest, 7, (none : Option Jvm.ClassFile.FieldType), 2, 40)
theorem moX9_noteFewest : mOK mX9_noteFewest := ⟨show Cond.code yX9_noteFewest cX9_noteFewest 7 (Option.none : Option Jvm.ClassFile.FieldType) ∈ gws from g_5 47 rfl rfl, iniX9, show RX9 ≠ _ ∧ RX9 ≠ _ by decide +kernel, show plainFor yX9_noteFewest = true by decide +kernel⟩
def mX9_spread (d : Nat) : qMt := (yX9_spread, cX9_spread, 5, (none : Option Jvm.ClassFile.FieldType), 2 * (d + 1), 28 * (d + 1))
theorem moX9_spread (d : Nat) : mOK (mX9_spread d) := ⟨show Cond.code yX9_spread cX9_spread 5 (Option.none : Option Jvm.ClassFile.FieldType) ∈ gws from g_5 42 rfl rfl, iniX9, show RX9 ≠ _ ∧ RX9 ≠ _ by decide +kernel, show plainFor yX9_spread = true by decide +kernel⟩
def mX9_addMisses : qMt := (yX9_addMisses, cX9_addMisses, 10, (none : Option Jvm.ClassFile.FieldType), 4, 104)
theorem moX9_addMisses : mOK mX9_addMisses := ⟨show Cond.code yX9_addMisses cX9_addMisses 10 (Option.none : Option Jvm.ClassFile.FieldType) ∈ gws from g_5 10 rfl rfl, iniX9, show RX9 ≠ _ ∧ RX9 ≠ _ by decide +kernel, show plainFor yX9_addMisses = true by decide +kernel⟩
def mX9_takeFewer : qMt := (yX9_takeFewer, cX9_takeFewer, 5, (none : Option Jvm.ClassFile.FieldType), 0, 0)
theorem moX9_takeFewer : mOK mX9_takeFewer := ⟨show Cond.code yX9_takeFewer cX9_takeFewer 5 (Option.none : Option Jvm.ClassFile.FieldType) ∈ gws from g_5 17 rfl rfl, iniX9, show RX9 ≠ _ ∧ RX9 ≠ _ by decide +kernel, show plainFor yX9_takeFewer = true by decide +kernel⟩
def mX9_tally : qMt := (yX9_tally, cX9_tally, 5, (none : Option Jvm.ClassFile.FieldType), 5, 133)
theorem moX9_tally : mOK mX9_tally := ⟨show Cond.code yX9_tally cX9_tally 5 (Option.none : Option Jvm.ClassFile.FieldType) ∈ gws from g_5 5 rfl rfl, iniX9, show RX9 ≠ _ ∧ RX9 ≠ _ by decide +kernel, show plainFor yX9_tally = true by decide +kernel⟩
def mX9_reckon : qMt := (yX9_reckon, cX9_reckon, 3, (none : Option Jvm.ClassFile.FieldType), 19, 276)
theorem moX9_reckon : mOK mX9_reckon := ⟨show Cond.code yX9_reckon cX9_reckon 3 (Option.none : Option Jvm.ClassFile.FieldType) ∈ gws from g_5 38 rfl rfl, iniX9, show RX9 ≠ _ ∧ RX9 ≠ _ by decide +kernel, show plainFor yX9_reckon = true by decide +kernel⟩
def mX9_missesOf : qMt := (yX9_missesOf, cX9_missesOf, 8, (some .int), 6, 157)
theorem moX9_missesOf : mOK mX9_missesOf := ⟨show Cond.code yX9_missesOf cX9_missesOf 8 (some .int) ∈ gws from g_4 239 rfl rfl, iniX9, show RX9 ≠ _ ∧ RX9 ≠ _ by decide +kernel, show plainFor yX9_missesOf = true by decide +kernel⟩
def mX9_below : qMt := (yX9_below, cX9_below, 4, (some .int), 0, 0)
theorem moX9_below : mOK mX9_below := ⟨show Cond.code yX9_below cX9_below 4 (some .int) ∈ gws from g_5 55 rfl rfl, iniX9, show RX9 ≠ _ ∧ RX9 ≠ _ by decide +kernel, show plainFor yX9_below = true by decide +kernel⟩
def mX10_changeSlow : qMt := (yX10_changeSlow, cX10_changeSlow, 5, (some .int), 0, 0)
theorem moX10_changeSlow : mOK mX10_changeSlow := ⟨show Cond.code yX10_changeSlow cX10_changeSlow 5 (some .int) ∈ gws from g_3 81 rfl rfl, iniX10, show RX10 ≠ _ ∧ RX10 ≠ _ by decide +kernel, show plainFor yX10_changeSlow = true by decide +kernel⟩
def mX11_accept : qMt := (yX11_accept, cX11_accept, 2, (some .int), 0, 0)
theorem moX11_accept : mOK mX11_accept := ⟨show Cond.code yX11_accept cX11_accept 2 (some .int) ∈ gws from g_3 31 rfl rfl, iniX11, show RX11 ≠ _ ∧ RX11 ≠ _ by decide +kernel, show plainFor yX11_accept = true by decide +kernel⟩
def mX11_changed : qMt := (yX11_changed, cX11_changed, 2, (some .int), 1, 21)
theorem moX11_changed : mOK mX11_changed := ⟨show Cond.code yX11_changed cX11_changed 2 (some .int) ∈ gws from g_3 19 rfl rfl, iniX11, show RX11 ≠ _ ∧ RX11 ≠ _ by decide +kernel, show plainFor yX11_changed = true by decide +kernel⟩
def mX11_ofSea : qMt := (yX11_ofSea, cX11_ofSea, 2, (some .boolean), 1, 22)
theorem moX11_ofSea : mOK mX11_ofSea := ⟨show Cond.code yX11_ofSea cX11_ofSea 2 (some .boolean) ∈ gws from g_2 229 rfl rfl, iniX11, show RX11 ≠ _ ∧ RX11 ≠ _ by decide +kernel, show plainFor yX11_ofSea = true by decide +kernel⟩
def mX11_refuse : qMt := (yX11_refuse, cX11_refuse, 3, (some .int), 1, 22)
theorem moX11_refuse : mOK mX11_refuse := ⟨show Cond.code yX11_refuse cX11_refuse 3 (some .int) ∈ gws from g_2 236 rfl rfl, iniX11, show RX11 ≠ _ ∧ RX11 ≠ _ by decide +kernel, show plainFor yX11_refuse = true by decide +kernel⟩
def mX11_boat : qMt := (yX11_boat, cX11_boat, 6, (some .int), 3, 71)
theorem moX11_boat : mOK mX11_boat := ⟨show Cond.code yX11_boat cX11_boat 6 (some .int) ∈ gws from g_2 226 rfl rfl, iniX11, show RX11 ≠ _ ∧ RX11 ≠ _ by decide +kernel, show plainFor yX11_boat = true by decide +kernel⟩
def mX11_isPace : qMt := (yX11_isPace, cX11_isPace, 2, (some .boolean), 1, 22)
theorem moX11_isPace : mOK mX11_isPace := ⟨show Cond.code yX11_isPace cX11_isPace 2 (some .boolean) ∈ gws from g_3 41 rfl rfl, iniX11, show RX11 ≠ _ ∧ RX11 ≠ _ by decide +kernel, show plainFor yX11_isPace = true by decide +kernel⟩
def mX11_leg : qMt := (yX11_leg, cX11_leg, 6, (some .int), 2, 48)
theorem moX11_leg : mOK mX11_leg := ⟨show Cond.code yX11_leg cX11_leg 6 (some .int) ∈ gws from g_3 35 rfl rfl, iniX11, show RX11 ≠ _ ∧ RX11 ≠ _ by decide +kernel, show plainFor yX11_leg = true by decide +kernel⟩
def mX11_where : qMt := (yX11_where, cX11_where, 5, (some .int), 2, 42)
theorem moX11_where : mOK mX11_where := ⟨show Cond.code yX11_where cX11_where 5 (some .int) ∈ gws from g_3 60 rfl rfl, iniX11, show RX11 ≠ _ ∧ RX11 ≠ _ by decide +kernel, show plainFor yX11_where = true by decide +kernel⟩
def mX11_terms : qMt := (yX11_terms, cX11_terms, 4, (some .int), 2, 44)
theorem moX11_terms : mOK mX11_terms := ⟨show Cond.code yX11_terms cX11_terms 4 (some .int) ∈ gws from g_3 64 rfl rfl, iniX11, show RX11 ≠ _ ∧ RX11 ≠ _ by decide +kernel, show plainFor yX11_terms = true by decide +kernel⟩
def mX11_day : qMt := (yX11_day, cX11_day, 3, (some .int), 2, 44)
theorem moX11_day : mOK mX11_day := ⟨show Cond.code yX11_day cX11_day 3 (some .int) ∈ gws from g_3 73 rfl rfl, iniX11, show RX11 ≠ _ ∧ RX11 ≠ _ by decide +kernel, show plainFor yX11_day = true by decide +kernel⟩
def mX11_layer : qMt := (yX11_layer, cX11_layer, 3, (some .int), 2, 44)
theorem moX11_layer : mOK mX11_layer := ⟨show Cond.code yX11_layer cX11_layer 3 (some .int) ∈ gws from g_3 77 rfl rfl, iniX11, show RX11 ≠ _ ∧ RX11 ≠ _ by decide +kernel, show plainFor yX11_layer = true by decide +kernel⟩
def mX11_reaches : qMt := (yX11_reaches, cX11_reaches, 4, (some .int), 3, 73)
theorem moX11_reaches : mOK mX11_reaches := ⟨show Cond.code yX11_reaches cX11_reaches 4 (some .int) ∈ gws from g_3 85 rfl rfl, iniX11, show RX11 ≠ _ ∧ RX11 ≠ _ by decide +kernel, show plainFor yX11_reaches = true by decide +kernel⟩
def mX11_bearing : qMt := (yX11_bearing, cX11_bearing, 3, (some .int), 2, 43)
theorem moX11_bearing : mOK mX11_bearing := ⟨show Cond.code yX11_bearing cX11_bearing 3 (some .int) ∈ gws from g_3 107 rfl rfl, iniX11, show RX11 ≠ _ ∧ RX11 ≠ _ by decide +kernel, show plainFor yX11_bearing = true by decide +kernel⟩
def mX11_addChanging : qMt := (yX11_addChanging, cX11_addChanging, 7, (some .int), 2, 47)
theorem moX11_addChanging : mOK mX11_addChanging := ⟨show Cond.code yX11_addChanging cX11_addChanging 7 (some .int) ∈ gws from g_3 121 rfl rfl, iniX11, show RX11 ≠ _ ∧ RX11 ≠ _ by decide +kernel, show plainFor yX11_addChanging = true by decide +kernel⟩
def mX11_heard : qMt := (yX11_heard, cX11_heard, 4, (some .int), 3, 73)
theorem moX11_heard : mOK mX11_heard := ⟨show Cond.code yX11_heard cX11_heard 4 (some .int) ∈ gws from g_3 117 rfl rfl, iniX11, show RX11 ≠ _ ∧ RX11 ≠ _ by decide +kernel, show plainFor yX11_heard = true by decide +kernel⟩
def mX11_echo : qMt := (yX11_echo, cX11_echo, 4, (some .int), 3, 73)
theorem moX11_echo : mOK mX11_echo := ⟨show Cond.code yX11_echo cX11_echo 4 (some .int) ∈ gws from g_3 125 rfl rfl, iniX11, show RX11 ≠ _ ∧ RX11 ≠ _ by decide +kernel, show plainFor yX11_echo = true by decide +kernel⟩
def mX11_wreck : qMt := (yX11_wreck, cX11_wreck, 3, (some .int), 3, 73)
theorem moX11_wreck : mOK mX11_wreck := ⟨show Cond.code yX11_wreck cX11_wreck 3 (some .int) ∈ gws from g_3 129 rfl rfl, iniX11, show RX11 ≠ _ ∧ RX11 ≠ _ by decide +kernel, show plainFor yX11_wreck = true by decide +kernel⟩
def mX11_shoal : qMt := (yX11_shoal, cX11_shoal, 6, (some .int), 3, 73)
theorem moX11_shoal : mOK mX11_shoal := ⟨show Cond.code yX11_shoal cX11_shoal 6 (some .int) ∈ gws from g_3 133 rfl rfl, iniX11, show RX11 ≠ _ ∧ RX11 ≠ _ by decide +kernel, show plainFor yX11_shoal = true by decide +kernel⟩
def mX11_known : qMt := (yX11_known, cX11_known, 3, (some .int), 6, 153)
theorem moX11_known : mOK mX11_known := ⟨show Cond.code yX11_known cX11_known 3 (some .int) ∈ gws from g_3 137 rfl rfl, iniX11, show RX11 ≠ _ ∧ RX11 ≠ _ by decide +kernel, show plainFor yX11_known = true by decide +kernel⟩
def mX11_inWatch : qMt := (yX11_inWatch, cX11_inWatch, 5, (some .int), 1, 22)
theorem moX11_inWatch : mOK mX11_inWatch := ⟨show Cond.code yX11_inWatch cX11_inWatch 5 (some .int) ∈ gws from g_3 201 rfl rfl, iniX11, show RX11 ≠ _ ∧ RX11 ≠ _ by decide +kernel, show plainFor yX11_inWatch = true by decide +kernel⟩
def mX11_watch : qMt := (yX11_watch, cX11_watch, 4, (some .int), 6, 153)
theorem moX11_watch : mOK mX11_watch := ⟨show Cond.code yX11_watch cX11_watch 4 (some .int) ∈ gws from g_3 198 rfl rfl, iniX11, show RX11 ≠ _ ∧ RX11 ≠ _ by decide +kernel, show plainFor yX11_watch = true by decide +kernel⟩
def mX11_feedNumber : qMt := (yX11_feedNumber, cX11_feedNumber, 3, (none : Option Jvm.ClassFile.FieldType), 0, 0)
theorem moX11_feedNumber : mOK mX11_feedNumber := ⟨show Cond.code yX11_feedNumber cX11_feedNumber 3 (Option.none : Option Jvm.ClassFile.FieldType) ∈ gws from g_3 209 rfl rfl, iniX11, show RX11 ≠ _ ∧ RX11 ≠ _ by decide +kernel, show plainFor yX11_feedNumber = true by decide +kernel⟩
def mX11_feed : qMt := (yX11_feed, cX11_feed, 6, (some .int), 1, 22)
theorem moX11_feed : mOK mX11_feed := ⟨show Cond.code yX11_feed cX11_feed 6 (some .int) ∈ gws from g_3 205 rfl rfl, iniX11, show RX11 ≠ _ ∧ RX11 ≠ _ by decide +kernel, show plainFor yX11_feed = true by decide +kernel⟩
def mX11_end : qMt := (yX11_end, cX11_end, 2, (some .int), 1, 22)
theorem moX11_end : mOK mX11_end := ⟨show Cond.code yX11_end cX11_end 2 (some .int) ∈ gws from g_3 213 rfl rfl, iniX11, show RX11 ≠ _ ∧ RX11 ≠ _ by decide +kernel, show plainFor yX11_end = true by decide +kernel⟩
def mX11_cameFromTape : qMt := (yX11_cameFromTape, cX11_cameFromTape, 4, (some .boolean), 2, 47)
theorem moX11_cameFromTape : mOK mX11_cameFromTape := ⟨show Cond.code yX11_cameFromTape cX11_cameFromTape 4 (some .boolean) ∈ gws from g_3 221 rfl rfl, iniX11, show RX11 ≠ _ ∧ RX11 ≠ _ by decide +kernel, show plainFor yX11_cameFromTape = true by decide +kernel⟩
def mX11_row : qMt := (yX11_row, cX11_row, 3, (some .int), 3, 70)
theorem moX11_row : mOK mX11_row := ⟨show Cond.code yX11_row cX11_row 3 (some .int) ∈ gws from g_3 217 rfl rfl, iniX11, show RX11 ≠ _ ∧ RX11 ≠ _ by decide +kernel, show plainFor yX11_row = true by decide +kernel⟩
def mX11_torn : qMt := (yX11_torn, cX11_torn, 1, (some .int), 0, 0)
theorem moX11_torn : mOK mX11_torn := ⟨show Cond.code yX11_torn cX11_torn 1 (some .int) ∈ gws from g_3 225 rfl rfl, iniX11, show RX11 ≠ _ ∧ RX11 ≠ _ by decide +kernel, show plainFor yX11_torn = true by decide +kernel⟩
def mX11_law : qMt := (yX11_law, cX11_law, 1, (some .int), 193, 4914)
theorem moX11_law : mOK mX11_law := ⟨show Cond.code yX11_law cX11_law 1 (some .int) ∈ gws from g_3 229 rfl rfl, iniX11, show RX11 ≠ _ ∧ RX11 ≠ _ by decide +kernel, show plainFor yX11_law = true by decide +kernel⟩
def mX11_fault : qMt := (yX11_fault, cX11_fault, 1, (some .int), 0, 0)
theorem moX11_fault : mOK mX11_fault := ⟨show Cond.code yX11_fault cX11_fault 1 (some .int) ∈ gws from g_4 145 rfl rfl, iniX11, show RX11 ≠ _ ∧ RX11 ≠ _ by decide +kernel, show plainFor yX11_fault = true by decide +kernel⟩
def mX11_runs : qMt := (yX11_runs, cX11_runs, 1, (some .int), 7, 177)
theorem moX11_runs : mOK mX11_runs := ⟨show Cond.code yX11_runs cX11_runs 1 (some .int) ∈ gws from g_4 149 rfl rfl, iniX11, show RX11 ≠ _ ∧ RX11 ≠ _ by decide +kernel, show plainFor yX11_runs = true by decide +kernel⟩
def mX11_run : qMt := (yX11_run, cX11_run, 3, (some .int), 7, 177)
theorem moX11_run : mOK mX11_run := ⟨show Cond.code yX11_run cX11_run 3 (some .int) ∈ gws from g_4 208 rfl rfl, iniX11, show RX11 ≠ _ ∧ RX11 ≠ _ by decide +kernel, show plainFor yX11_run = true by decide +kernel⟩
def mX11_span : qMt := (yX11_span, cX11_span, 3, (some .int), 7, 177)
theorem moX11_span : mOK mX11_span := ⟨show Cond.code yX11_span cX11_span 3 (some .int) ∈ gws from g_4 216 rfl rfl, iniX11, show RX11 ≠ _ ∧ RX11 ≠ _ by decide +kernel, show plainFor yX11_span = true by decide +kernel⟩
def mX11_isRun : qMt := (yX11_isRun, cX11_isRun, 4, (some .boolean), 2, 43)
theorem moX11_isRun : mOK mX11_isRun := ⟨show Cond.code yX11_isRun cX11_isRun 4 (some .boolean) ∈ gws from g_4 235 rfl rfl, iniX11, show RX11 ≠ _ ∧ RX11 ≠ _ by decide +kernel, show plainFor yX11_isRun = true by decide +kernel⟩
def mX11_misses : qMt := (yX11_misses, cX11_misses, 5, (some .int), 7, 184)
theorem moX11_misses : mOK mX11_misses := ⟨show Cond.code yX11_misses cX11_misses 5 (some .int) ∈ gws from g_4 232 rfl rfl, iniX11, show RX11 ≠ _ ∧ RX11 ≠ _ by decide +kernel, show plainFor yX11_misses = true by decide +kernel⟩
def mX11_alone : qMt := (yX11_alone, cX11_alone, 5, (some .int), 7, 177)
theorem moX11_alone : mOK mX11_alone := ⟨show Cond.code yX11_alone cX11_alone 5 (some .int) ∈ gws from g_5 21 rfl rfl, iniX11, show RX11 ≠ _ ∧ RX11 ≠ _ by decide +kernel, show plainFor yX11_alone = true by decide +kernel⟩
def mX11_within : qMt := (yX11_within, cX11_within, 5, (some .int), 7, 177)
theorem moX11_within : mOK mX11_within := ⟨show Cond.code yX11_within cX11_within 5 (some .int) ∈ gws from g_5 25 rfl rfl, iniX11, show RX11 ≠ _ ∧ RX11 ≠ _ by decide +kernel, show plainFor yX11_within = true by decide +kernel⟩
def mX11_least : qMt := (yX11_least, cX11_least, 2, (some .int), 20, 298)
theorem moX11_least : mOK mX11_least := ⟨show Cond.code yX11_least cX11_least 2 (some .int) ∈ gws from g_5 34 rfl rfl, iniX11, show RX11 ≠ _ ∧ RX11 ≠ _ by decide +kernel, show plainFor yX11_least = true by decide +kernel⟩
def mX11_addTo : qMt := (yX11_addTo, cX11_addTo, 7, (some .int), 2, 47)
theorem moX11_addTo : mOK mX11_addTo := ⟨show Cond.code yX11_addTo cX11_addTo 7 (some .int) ∈ gws from g_5 63 rfl rfl, iniX11, show RX11 ≠ _ ∧ RX11 ≠ _ by decide +kernel, show plainFor yX11_addTo = true by decide +kernel⟩
def mX11_guess : qMt := (yX11_guess, cX11_guess, 5, (some .int), 3, 73)
theorem moX11_guess : mOK mX11_guess := ⟨show Cond.code yX11_guess cX11_guess 5 (some .int) ∈ gws from g_5 59 rfl rfl, iniX11, show RX11 ≠ _ ∧ RX11 ≠ _ by decide +kernel, show plainFor yX11_guess = true by decide +kernel⟩
def mX11_better : qMt := (yX11_better, cX11_better, 4, (some .int), 20, 298)
theorem moX11_better : mOK mX11_better := ⟨show Cond.code yX11_better cX11_better 4 (some .int) ∈ gws from g_5 67 rfl rfl, iniX11, show RX11 ≠ _ ∧ RX11 ≠ _ by decide +kernel, show plainFor yX11_better = true by decide +kernel⟩
def mX11_offer : qMt := (yX11_offer, cX11_offer, 3, (some .int), 3, 73)
theorem moX11_offer : mOK mX11_offer := ⟨show Cond.code yX11_offer cX11_offer 3 (some .int) ∈ gws from g_5 71 rfl rfl, iniX11, show RX11 ≠ _ ∧ RX11 ≠ _ by decide +kernel, show plainFor yX11_offer = true by decide +kernel⟩
def mX11_isAhead : qMt := (yX11_isAhead, cX11_isAhead, 2, (some .boolean), 2, 42)
theorem moX11_isAhead : mOK mX11_isAhead := ⟨show Cond.code yX11_isAhead cX11_isAhead 2 (some .boolean) ∈ gws from g_5 78 rfl rfl, iniX11, show RX11 ≠ _ ∧ RX11 ≠ _ by decide +kernel, show plainFor yX11_isAhead = true by decide +kernel⟩
def mX11_offerEast : qMt := (yX11_offerEast, cX11_offerEast, 4, (some .int), 1, 22)
theorem moX11_offerEast : mOK mX11_offerEast := ⟨show Cond.code yX11_offerEast cX11_offerEast 4 (some .int) ∈ gws from g_5 82 rfl rfl, iniX11, show RX11 ≠ _ ∧ RX11 ≠ _ by decide +kernel, show plainFor yX11_offerEast = true by decide +kernel⟩
def mX11_offerNorth : qMt := (yX11_offerNorth, cX11_offerNorth, 4, (some .int), 1, 22)
theorem moX11_offerNorth : mOK mX11_offerNorth := ⟨show Cond.code yX11_offerNorth cX11_offerNorth 4 (some .int) ∈ gws from g_5 86 rfl rfl, iniX11, show RX11 ≠ _ ∧ RX11 ≠ _ by decide +kernel, show plainFor yX11_offerNorth = true by decide +kernel⟩
def mX11_parts : qMt := (yX11_parts, cX11_parts, 4, (some .int), 7, 177)
theorem moX11_parts : mOK mX11_parts := ⟨show Cond.code yX11_parts cX11_parts 4 (some .int) ∈ gws from g_5 75 rfl rfl, iniX11, show RX11 ≠ _ ∧ RX11 ≠ _ by decide +kernel, show plainFor yX11_parts = true by decide +kernel⟩
def mX11_offerSpeed : qMt := (yX11_offerSpeed, cX11_offerSpeed, 2, (some .int), 1, 22)
theorem moX11_offerSpeed : mOK mX11_offerSpeed := ⟨show Cond.code yX11_offerSpeed cX11_offerSpeed 2 (some .int) ∈ gws from g_5 107 rfl rfl, iniX11, show RX11 ≠ _ ∧ RX11 ≠ _ by decide +kernel, show plainFor yX11_offerSpeed = true by decide +kernel⟩
def mX11_bestOffer : qMt := (yX11_bestOffer, cX11_bestOffer, 11, (some .int), 6, 148)
theorem moX11_bestOffer : mOK mX11_bestOffer := ⟨show Cond.code yX11_bestOffer cX11_bestOffer 11 (some .int) ∈ gws from g_5 103 rfl rfl, iniX11, show RX11 ≠ _ ∧ RX11 ≠ _ by decide +kernel, show plainFor yX11_bestOffer = true by decide +kernel⟩
def mX11_turn : qMt := (yX11_turn, cX11_turn, 3, (some .int), 7, 178)
theorem moX11_turn : mOK mX11_turn := ⟨show Cond.code yX11_turn cX11_turn 3 (some .int) ∈ gws from g_5 99 rfl rfl, iniX11, show RX11 ≠ _ ∧ RX11 ≠ _ by decide +kernel, show plainFor yX11_turn = true by decide +kernel⟩
def mX11_heardBy : qMt := (yX11_heardBy, cX11_heardBy, 6, (some .int), 7, 177)
theorem moX11_heardBy : mOK mX11_heardBy := ⟨show Cond.code yX11_heardBy cX11_heardBy 6 (some .int) ∈ gws from g_5 151 rfl rfl, iniX11, show RX11 ≠ _ ∧ RX11 ≠ _ by decide +kernel, show plainFor yX11_heardBy = true by decide +kernel⟩
def mX11_silent : qMt := (yX11_silent, cX11_silent, 4, (some .int), 7, 178)
theorem moX11_silent : mOK mX11_silent := ⟨show Cond.code yX11_silent cX11_silent 4 (some .int) ∈ gws from g_5 155 rfl rfl, iniX11, show RX11 ≠ _ ∧ RX11 ≠ _ by decide +kernel, show plainFor yX11_silent = true by decide +kernel⟩
def mX11_traces : qMt := (yX11_traces, cX11_traces, 2, (some .int), 57, 825)
theorem moX11_traces : mOK mX11_traces := ⟨show Cond.code yX11_traces cX11_traces 2 (some .int) ∈ gws from g_5 160 rfl rfl, iniX11, show RX11 ≠ _ ∧ RX11 ≠ _ by decide +kernel, show plainFor yX11_traces = true by decide +kernel⟩
def mX11_next : qMt := (yX11_next, cX11_next, 2, (some .int), 58, 850)
theorem moX11_next : mOK mX11_next := ⟨show Cond.code yX11_next cX11_next 2 (some .int) ∈ gws from g_5 183 rfl rfl, iniX11, show RX11 ≠ _ ∧ RX11 ≠ _ by decide +kernel, show plainFor yX11_next = true by decide +kernel⟩
def mX11_sure : qMt := (yX11_sure, cX11_sure, 4, (some .int), 58, 848)
theorem moX11_sure : mOK mX11_sure := ⟨show Cond.code yX11_sure cX11_sure 4 (some .int) ∈ gws from g_5 196 rfl rfl, iniX11, show RX11 ≠ _ ∧ RX11 ≠ _ by decide +kernel, show plainFor yX11_sure = true by decide +kernel⟩
def mX11_cross : qMt := (yX11_cross, cX11_cross, 6, (some .int), 6, 153)
theorem moX11_cross : mOK mX11_cross := ⟨show Cond.code yX11_cross cX11_cross 6 (some .int) ∈ gws from g_5 204 rfl rfl, iniX11, show RX11 ≠ _ ∧ RX11 ≠ _ by decide +kernel, show plainFor yX11_cross = true by decide +kernel⟩
def mX11_pairings : qMt := (yX11_pairings, cX11_pairings, 3, (some .int), 19, 286)
theorem moX11_pairings : mOK mX11_pairings := ⟨show Cond.code yX11_pairings cX11_pairings 3 (some .int) ∈ gws from g_5 216 rfl rfl, iniX11, show RX11 ≠ _ ∧ RX11 ≠ _ by decide +kernel, show plainFor yX11_pairings = true by decide +kernel⟩
def mX11_ghost : qMt := (yX11_ghost, cX11_ghost, 5, (some .int), 19, 286)
theorem moX11_ghost : mOK mX11_ghost := ⟨show Cond.code yX11_ghost cX11_ghost 5 (some .int) ∈ gws from g_5 231 rfl rfl, iniX11, show RX11 ≠ _ ∧ RX11 ≠ _ by decide +kernel, show plainFor yX11_ghost = true by decide +kernel⟩
def mX11_beat : qMt := (yX11_beat, cX11_beat, 3, (some .int), 3, 73)
theorem moX11_beat : mOK mX11_beat := ⟨show Cond.code yX11_beat cX11_beat 3 (some .int) ∈ gws from g_5 239 rfl rfl, iniX11, show RX11 ≠ _ ∧ RX11 ≠ _ by decide +kernel, show plainFor yX11_beat = true by decide +kernel⟩
def mX11_beatFits : qMt := (yX11_beatFits, cX11_beatFits, 3, (some .boolean), 1, 20)
theorem moX11_beatFits : mOK mX11_beatFits := ⟨show Cond.code yX11_beatFits cX11_beatFits 3 (some .boolean) ∈ gws from g_6 10 rfl rfl, iniX11, show RX11 ≠ _ ∧ RX11 ≠ _ by decide +kernel, show plainFor yX11_beatFits = true by decide +kernel⟩
def mX11_screwFits : qMt := (yX11_screwFits, cX11_screwFits, 4, (some .boolean), 2, 42)
theorem moX11_screwFits : mOK mX11_screwFits := ⟨show Cond.code yX11_screwFits cX11_screwFits 4 (some .boolean) ∈ gws from g_6 7 rfl rfl, iniX11, show RX11 ≠ _ ∧ RX11 ≠ _ by decide +kernel, show plainFor yX11_screwFits = true by decide +kernel⟩
def mX11_screws : qMt := (yX11_screws, cX11_screws, 3, (some .int), 3, 65)
theorem moX11_screws : mOK mX11_screws := ⟨show Cond.code yX11_screws cX11_screws 3 (some .int) ∈ gws from g_6 3 rfl rfl, iniX11, show RX11 ≠ _ ∧ RX11 ≠ _ by decide +kernel, show plainFor yX11_screws = true by decide +kernel⟩
def mX11_screw : qMt := (yX11_screw, cX11_screw, 5, (some .int), 3, 65)
theorem moX11_screw : mOK mX11_screw := ⟨show Cond.code yX11_screw cX11_screw 5 (some .int) ∈ gws from g_6 14 rfl rfl, iniX11, show RX11 ≠ _ ∧ RX11 ≠ _ by decide +kernel, show plainFor yX11_screw = true by decide +kernel⟩
def mX11_tells : qMt := (yX11_tells, cX11_tells, 5, (some .int), 4, 98)
theorem moX11_tells : mOK mX11_tells := ⟨show Cond.code yX11_tells cX11_tells 5 (some .int) ∈ gws from g_6 18 rfl rfl, iniX11, show RX11 ≠ _ ∧ RX11 ≠ _ by decide +kernel, show plainFor yX11_tells = true by decide +kernel⟩
def mX11_hears : qMt := (yX11_hears, cX11_hears, 4, (some .int), 7, 177)
theorem moX11_hears : mOK mX11_hears := ⟨show Cond.code yX11_hears cX11_hears 4 (some .int) ∈ gws from g_6 25 rfl rfl, iniX11, show RX11 ≠ _ ∧ RX11 ≠ _ by decide +kernel, show plainFor yX11_hears = true by decide +kernel⟩
def mX11_cell : qMt := (yX11_cell, cX11_cell, 3, (some .int), 3, 73)
theorem moX11_cell : mOK mX11_cell := ⟨show Cond.code yX11_cell cX11_cell 3 (some .int) ∈ gws from g_6 29 rfl rfl, iniX11, show RX11 ≠ _ ∧ RX11 ≠ _ by decide +kernel, show plainFor yX11_cell = true by decide +kernel⟩
def mX11_commonDivisor : qMt := (yX11_commonDivisor, cX11_commonDivisor, 11, (some .long), 0, 0)
theorem moX11_commonDivisor : mOK mX11_commonDivisor := ⟨show Cond.code yX11_commonDivisor cX11_commonDivisor 11 (some .long) ∈ gws from g_6 49 rfl rfl, iniX11, show RX11 ≠ _ ∧ RX11 ≠ _ by decide +kernel, show plainFor yX11_commonDivisor = true by decide +kernel⟩
def mX11_power : qMt := (yX11_power, cX11_power, 5, (some .long), 0, 0)
theorem moX11_power : mOK mX11_power := ⟨show Cond.code yX11_power cX11_power 5 (some .long) ∈ gws from g_6 46 rfl rfl, iniX11, show RX11 ≠ _ ∧ RX11 ≠ _ by decide +kernel, show plainFor yX11_power = true by decide +kernel⟩
def mX11_gain : qMt := (yX11_gain, cX11_gain, 6, (some .long), 1, 24)
theorem moX11_gain : mOK mX11_gain := ⟨show Cond.code yX11_gain cX11_gain 6 (some .long) ∈ gws from g_6 43 rfl rfl, iniX11, show RX11 ≠ _ ∧ RX11 ≠ _ by decide +kernel, show plainFor yX11_gain = true by decide +kernel⟩
def mX11_spreadLooks : qMt := (yX11_spreadLooks, cX11_spreadLooks, 7, (some .long), 2, 49)
theorem moX11_spreadLooks : mOK mX11_spreadLooks := ⟨show Cond.code yX11_spreadLooks cX11_spreadLooks 7 (some .long) ∈ gws from g_6 38 rfl rfl, iniX11, show RX11 ≠ _ ∧ RX11 ≠ _ by decide +kernel, show plainFor yX11_spreadLooks = true by decide +kernel⟩
def mX11_search : qMt := (yX11_search, cX11_search, 9, (some .long), 3, 75)
theorem moX11_search : mOK mX11_search := ⟨show Cond.code yX11_search cX11_search 9 (some .long) ∈ gws from g_6 33 rfl rfl, iniX11, show RX11 ≠ _ ∧ RX11 ≠ _ by decide +kernel, show plainFor yX11_search = true by decide +kernel⟩
def mX11_looks : qMt := (yX11_looks, cX11_looks, 3, (some .int), 3, 75)
theorem moX11_looks : mOK mX11_looks := ⟨show Cond.code yX11_looks cX11_looks 3 (some .int) ∈ gws from g_6 53 rfl rfl, iniX11, show RX11 ≠ _ ∧ RX11 ≠ _ by decide +kernel, show plainFor yX11_looks = true by decide +kernel⟩
def mX11_image : qMt := (yX11_image, cX11_image, 2, (some .int), 4, 123)
theorem moX11_image : mOK mX11_image := ⟨show Cond.code yX11_image cX11_image 2 (some .int) ∈ gws from g_6 57 rfl rfl, iniX11, show RX11 ≠ _ ∧ RX11 ≠ _ by decide +kernel, show plainFor yX11_image = true by decide +kernel⟩
def mX11_back : qMt := (yX11_back, cX11_back, 2, (some .int), 4, 123)
theorem moX11_back : mOK mX11_back := ⟨show Cond.code yX11_back cX11_back 2 (some .int) ∈ gws from g_6 78 rfl rfl, iniX11, show RX11 ≠ _ ∧ RX11 ≠ _ by decide +kernel, show plainFor yX11_back = true by decide +kernel⟩
def mX11_count : qMt := (yX11_count, cX11_count, 2, (some .int), 6, 153)
theorem moX11_count : mOK mX11_count := ⟨show Cond.code yX11_count cX11_count 2 (some .int) ∈ gws from g_6 82 rfl rfl, iniX11, show RX11 ≠ _ ∧ RX11 ≠ _ by decide +kernel, show plainFor yX11_count = true by decide +kernel⟩
def mX11_status : qMt := (yX11_status, cX11_status, 1, (some .int), 0, 0)
theorem moX11_status : mOK mX11_status := ⟨show Cond.code yX11_status cX11_status 1 (some .int) ∈ gws from g_6 86 rfl rfl, iniX11, show RX11 ≠ _ ∧ RX11 ≠ _ by decide +kernel, show plainFor yX11_status = true by decide +kernel⟩
def mX12_in : qMt := (yX12_in, cX12_in, 3, (some .boolean), 0, 0)
theorem moX12_in : mOK mX12_in := ⟨show Cond.code yX12_in cX12_in 3 (some .boolean) ∈ gws from g_6 236 rfl rfl, iniX12, show RX12 ≠ _ ∧ RX12 ≠ _ by decide +kernel, show plainFor yX12_in = true by decide +kernel⟩
def mX12_refuses : qMt := (yX12_refuses, cX12_refuses, 2, (some .int), 0, 0)
theorem moX12_refuses : mOK mX12_refuses := ⟨show Cond.code yX12_refuses cX12_refuses 2 (some .int) ∈ gws from g_7 0 rfl rfl, iniX12, show RX12 ≠ _ ∧ RX12 ≠ _ by decide +kernel, show plainFor yX12_refuses = true by decide +kernel⟩
def mX12_good : qMt := (yX12_good, cX12_good, 2, (some .int), 0, 0)
theorem moX12_good : mOK mX12_good := ⟨show Cond.code yX12_good cX12_good 2 (some .int) ∈ gws from g_7 4 rfl rfl, iniX12, show RX12 ≠ _ ∧ RX12 ≠ _ by decide +kernel, show plainFor yX12_good = true by decide +kernel⟩
def mX12_size : qMt := (yX12_size, cX12_size, 1, (some .int), 0, 0)
theorem moX12_size : mOK mX12_size := ⟨show Cond.code yX12_size cX12_size 1 (some .int) ∈ gws from g_7 47 rfl rfl, iniX12, show RX12 ≠ _ ∧ RX12 ≠ _ by decide +kernel, show plainFor yX12_size = true by decide +kernel⟩
def mX12_more : qMt := (yX12_more, cX12_more, 2, (some .int), 0, 0)
theorem moX12_more : mOK mX12_more := ⟨show Cond.code yX12_more cX12_more 2 (some .int) ∈ gws from g_7 50 rfl rfl, iniX12, show RX12 ≠ _ ∧ RX12 ≠ _ by decide +kernel, show plainFor yX12_more = true by decide +kernel⟩
def mX12_image : qMt := (yX12_image, cX12_image, 3, (some .int), 1, 22)
theorem moX12_image : mOK mX12_image := ⟨show Cond.code yX12_image cX12_image 3 (some .int) ∈ gws from g_6 233 rfl rfl, iniX12, show RX12 ≠ _ ∧ RX12 ≠ _ by decide +kernel, show plainFor yX12_image = true by decide +kernel⟩
def mX12_back : qMt := (yX12_back, cX12_back, 3, (some .int), 1, 22)
theorem moX12_back : mOK mX12_back := ⟨show Cond.code yX12_back cX12_back 3 (some .int) ∈ gws from g_7 8 rfl rfl, iniX12, show RX12 ≠ _ ∧ RX12 ≠ _ by decide +kernel, show plainFor yX12_back = true by decide +kernel⟩
def mX12_term : qMt := (yX12_term, cX12_term, 2, (some .int), 0, 0)
theorem moX12_term : mOK mX12_term := ⟨show Cond.code yX12_term cX12_term 2 (some .int) ∈ gws from g_7 62 rfl rfl, iniX12, show RX12 ≠ _ ∧ RX12 ≠ _ by decide +kernel, show plainFor yX12_term = true by decide +kernel⟩
def mX12_isBell : qMt := (yX12_isBell, cX12_isBell, 1, (some .boolean), 1, 22)
theorem moX12_isBell : mOK mX12_isBell := ⟨show Cond.code yX12_isBell cX12_isBell 1 (some .boolean) ∈ gws from g_7 29 rfl rfl, iniX12, show RX12 ≠ _ ∧ RX12 ≠ _ by decide +kernel, show plainFor yX12_isBell = true by decide +kernel⟩
def mX12_isSea : qMt := (yX12_isSea, cX12_isSea, 1, (some .boolean), 1, 22)
theorem moX12_isSea : mOK mX12_isSea := ⟨show Cond.code yX12_isSea cX12_isSea 1 (some .boolean) ∈ gws from g_7 15 rfl rfl, iniX12, show RX12 ≠ _ ∧ RX12 ≠ _ by decide +kernel, show plainFor yX12_isSea = true by decide +kernel⟩
def mX12_isBoat : qMt := (yX12_isBoat, cX12_isBoat, 1, (some .boolean), 1, 22)
theorem moX12_isBoat : mOK mX12_isBoat := ⟨show Cond.code yX12_isBoat cX12_isBoat 1 (some .boolean) ∈ gws from g_7 18 rfl rfl, iniX12, show RX12 ≠ _ ∧ RX12 ≠ _ by decide +kernel, show plainFor yX12_isBoat = true by decide +kernel⟩
def mX12_isPace : qMt := (yX12_isPace, cX12_isPace, 1, (some .boolean), 1, 22)
theorem moX12_isPace : mOK mX12_isPace := ⟨show Cond.code yX12_isPace cX12_isPace 1 (some .boolean) ∈ gws from g_7 32 rfl rfl, iniX12, show RX12 ≠ _ ∧ RX12 ≠ _ by decide +kernel, show plainFor yX12_isPace = true by decide +kernel⟩
def mX12_boatOf : qMt := (yX12_boatOf, cX12_boatOf, 3, (some .int), 0, 0)
theorem moX12_boatOf : mOK mX12_boatOf := ⟨show Cond.code yX12_boatOf cX12_boatOf 3 (some .int) ∈ gws from g_7 22 rfl rfl, iniX12, show RX12 ≠ _ ∧ RX12 ≠ _ by decide +kernel, show plainFor yX12_boatOf = true by decide +kernel⟩
def mX12_legOf : qMt := (yX12_legOf, cX12_legOf, 4, (some .int), 1, 22)
theorem moX12_legOf : mOK mX12_legOf := ⟨show Cond.code yX12_legOf cX12_legOf 4 (some .int) ∈ gws from g_7 36 rfl rfl, iniX12, show RX12 ≠ _ ∧ RX12 ≠ _ by decide +kernel, show plainFor yX12_legOf = true by decide +kernel⟩
def mX12_boat : qMt := (yX12_boat, cX12_boat, 6, (some .int), 2, 42)
theorem moX12_boat : mOK mX12_boat := ⟨show Cond.code yX12_boat cX12_boat 6 (some .int) ∈ gws from g_7 12 rfl rfl, iniX12, show RX12 ≠ _ ∧ RX12 ≠ _ by decide +kernel, show plainFor yX12_boat = true by decide +kernel⟩
def mX12_leg : qMt := (yX12_leg, cX12_leg, 7, (some .int), 2, 45)
theorem moX12_leg : mOK mX12_leg := ⟨show Cond.code yX12_leg cX12_leg 7 (some .int) ∈ gws from g_7 26 rfl rfl, iniX12, show RX12 ≠ _ ∧ RX12 ≠ _ by decide +kernel, show plainFor yX12_leg = true by decide +kernel⟩
def mX12_at : qMt := (yX12_at, cX12_at, 7, (some .int), 2, 45)
theorem moX12_at : mOK mX12_at := ⟨show Cond.code yX12_at cX12_at 7 (some .int) ∈ gws from g_7 54 rfl rfl, iniX12, show RX12 ≠ _ ∧ RX12 ≠ _ by decide +kernel, show plainFor yX12_at = true by decide +kernel⟩
def mX12_speedOf : qMt := (yX12_speedOf, cX12_speedOf, 5, (some .int), 2, 45)
theorem moX12_speedOf : mOK mX12_speedOf := ⟨show Cond.code yX12_speedOf cX12_speedOf 5 (some .int) ∈ gws from g_7 44 rfl rfl, iniX12, show RX12 ≠ _ ∧ RX12 ≠ _ by decide +kernel, show plainFor yX12_speedOf = true by decide +kernel⟩
def mX12_where : qMt := (yX12_where, cX12_where, 4, (some .int), 3, 71)
theorem moX12_where : mOK mX12_where := ⟨show Cond.code yX12_where cX12_where 4 (some .int) ∈ gws from g_7 40 rfl rfl, iniX12, show RX12 ≠ _ ∧ RX12 ≠ _ by decide +kernel, show plainFor yX12_where = true by decide +kernel⟩
def mX12_terms : qMt := (yX12_terms, cX12_terms, 4, (some .int), 1, 22)
theorem moX12_terms : mOK mX12_terms := ⟨show Cond.code yX12_terms cX12_terms 4 (some .int) ∈ gws from g_7 58 rfl rfl, iniX12, show RX12 ≠ _ ∧ RX12 ≠ _ by decide +kernel, show plainFor yX12_terms = true by decide +kernel⟩
def mX12_slowOf : qMt := (yX12_slowOf, cX12_slowOf, 2, (some .int), 0, 0)
theorem moX12_slowOf : mOK mX12_slowOf := ⟨show Cond.code yX12_slowOf cX12_slowOf 2 (some .int) ∈ gws from g_7 74 rfl rfl, iniX12, show RX12 ≠ _ ∧ RX12 ≠ _ by decide +kernel, show plainFor yX12_slowOf = true by decide +kernel⟩
def mX12_day : qMt := (yX12_day, cX12_day, 3, (some .int), 1, 22)
theorem moX12_day : mOK mX12_day := ⟨show Cond.code yX12_day cX12_day 3 (some .int) ∈ gws from g_7 66 rfl rfl, iniX12, show RX12 ≠ _ ∧ RX12 ≠ _ by decide +kernel, show plainFor yX12_day = true by decide +kernel⟩
def mX12_layer : qMt := (yX12_layer, cX12_layer, 4, (some .int), 1, 22)
theorem moX12_layer : mOK mX12_layer := ⟨show Cond.code yX12_layer cX12_layer 4 (some .int) ∈ gws from g_7 70 rfl rfl, iniX12, show RX12 ≠ _ ∧ RX12 ≠ _ by decide +kernel, show plainFor yX12_layer = true by decide +kernel⟩
def mX12_ray : qMt := (yX12_ray, cX12_ray, 8, (none : Option Jvm.ClassFile.FieldType), 1, 22)
theorem moX12_ray : mOK mX12_ray := ⟨show Cond.code yX12_ray cX12_ray 8 (Option.none : Option Jvm.ClassFile.FieldType) ∈ gws from g_7 86 rfl rfl, iniX12, show RX12 ≠ _ ∧ RX12 ≠ _ by decide +kernel, show plainFor yX12_ray = true by decide +kernel⟩
def mX12_carries : qMt := (yX12_carries, cX12_carries, 6, (some .boolean), 2, 49)
theorem moX12_carries : mOK mX12_carries := ⟨show Cond.code yX12_carries cX12_carries 6 (some .boolean) ∈ gws from g_7 82 rfl rfl, iniX12, show RX12 ≠ _ ∧ RX12 ≠ _ by decide +kernel, show plainFor yX12_carries = true by decide +kernel⟩
def mX12_reaches : qMt := (yX12_reaches, cX12_reaches, 4, (some .int), 3, 74)
theorem moX12_reaches : mOK mX12_reaches := ⟨show Cond.code yX12_reaches cX12_reaches 4 (some .int) ∈ gws from g_7 78 rfl rfl, iniX12, show RX12 ≠ _ ∧ RX12 ≠ _ by decide +kernel, show plainFor yX12_reaches = true by decide +kernel⟩
def mX12_rose : qMt := (yX12_rose, cX12_rose, 3, (some .int), 1, 21)
theorem moX12_rose : mOK mX12_rose := ⟨show Cond.code yX12_rose cX12_rose 3 (some .int) ∈ gws from g_7 93 rfl rfl, iniX12, show RX12 ≠ _ ∧ RX12 ≠ _ by decide +kernel, show plainFor yX12_rose = true by decide +kernel⟩
def mX12_bearing : qMt := (yX12_bearing, cX12_bearing, 3, (some .int), 2, 43)
theorem moX12_bearing : mOK mX12_bearing := ⟨show Cond.code yX12_bearing cX12_bearing 3 (some .int) ∈ gws from g_7 90 rfl rfl, iniX12, show RX12 ≠ _ ∧ RX12 ≠ _ by decide +kernel, show plainFor yX12_bearing = true by decide +kernel⟩
def mX12_turned : qMt := (yX12_turned, cX12_turned, 3, (some .int), 1, 20)
theorem moX12_turned : mOK mX12_turned := ⟨show Cond.code yX12_turned cX12_turned 3 (some .int) ∈ gws from g_7 148 rfl rfl, iniX12, show RX12 ≠ _ ∧ RX12 ≠ _ by decide +kernel, show plainFor yX12_turned = true by decide +kernel⟩
def mX12_heardOf : qMt := (yX12_heardOf, cX12_heardOf, 3, (some .int), 0, 0)
theorem moX12_heardOf : mOK mX12_heardOf := ⟨show Cond.code yX12_heardOf cX12_heardOf 3 (some .int) ∈ gws from g_7 137 rfl rfl, iniX12, show RX12 ≠ _ ∧ RX12 ≠ _ by decide +kernel, show plainFor yX12_heardOf = true by decide +kernel⟩
def mX12_echoOf : qMt := (yX12_echoOf, cX12_echoOf, 3, (some .int), 0, 0)
theorem moX12_echoOf : mOK mX12_echoOf := ⟨show Cond.code yX12_echoOf cX12_echoOf 3 (some .int) ∈ gws from g_7 133 rfl rfl, iniX12, show RX12 ≠ _ ∧ RX12 ≠ _ by decide +kernel, show plainFor yX12_echoOf = true by decide +kernel⟩
def mX12_hearsNew : qMt := (yX12_hearsNew, cX12_hearsNew, 5, (none : Option Jvm.ClassFile.FieldType), 0, 0)
theorem moX12_hearsNew : mOK mX12_hearsNew := ⟨show Cond.code yX12_hearsNew cX12_hearsNew 5 (Option.none : Option Jvm.ClassFile.FieldType) ∈ gws from g_7 101 rfl rfl, iniX12, show RX12 ≠ _ ∧ RX12 ≠ _ by decide +kernel, show plainFor yX12_hearsNew = true by decide +kernel⟩
def mX12_heard : qMt := (yX12_heard, cX12_heard, 4, (some .int), 2, 42)
theorem moX12_heard : mOK mX12_heard := ⟨show Cond.code yX12_heard cX12_heard 4 (some .int) ∈ gws from g_7 97 rfl rfl, iniX12, show RX12 ≠ _ ∧ RX12 ≠ _ by decide +kernel, show plainFor yX12_heard = true by decide +kernel⟩
def mX12_echo : qMt := (yX12_echo, cX12_echo, 5, (some .int), 2, 42)
theorem moX12_echo : mOK mX12_echo := ⟨show Cond.code yX12_echo cX12_echo 5 (some .int) ∈ gws from g_7 105 rfl rfl, iniX12, show RX12 ≠ _ ∧ RX12 ≠ _ by decide +kernel, show plainFor yX12_echo = true by decide +kernel⟩
def mX12_wreck : qMt := (yX12_wreck, cX12_wreck, 4, (some .int), 2, 42)
theorem moX12_wreck : mOK mX12_wreck := ⟨show Cond.code yX12_wreck cX12_wreck 4 (some .int) ∈ gws from g_7 109 rfl rfl, iniX12, show RX12 ≠ _ ∧ RX12 ≠ _ by decide +kernel, show plainFor yX12_wreck = true by decide +kernel⟩
def mX12_isTowards : qMt := (yX12_isTowards, cX12_isTowards, 4, (some .boolean), 2, 43)
theorem moX12_isTowards : mOK mX12_isTowards := ⟨show Cond.code yX12_isTowards cX12_isTowards 4 (some .boolean) ∈ gws from g_7 145 rfl rfl, iniX12, show RX12 ≠ _ ∧ RX12 ≠ _ by decide +kernel, show plainFor yX12_isTowards = true by decide +kernel⟩
def mX12_isAsFar : qMt := (yX12_isAsFar, cX12_isAsFar, 7, (some .boolean), 1, 22)
theorem moX12_isAsFar : mOK mX12_isAsFar := ⟨show Cond.code yX12_isAsFar cX12_isAsFar 7 (some .boolean) ∈ gws from g_7 141 rfl rfl, iniX12, show RX12 ≠ _ ∧ RX12 ≠ _ by decide +kernel, show plainFor yX12_isAsFar = true by decide +kernel⟩
def mX12_shoal : qMt := (yX12_shoal, cX12_shoal, 8, (some .int), 2, 42)
theorem moX12_shoal : mOK mX12_shoal := ⟨show Cond.code yX12_shoal cX12_shoal 8 (some .int) ∈ gws from g_7 113 rfl rfl, iniX12, show RX12 ≠ _ ∧ RX12 ≠ _ by decide +kernel, show plainFor yX12_shoal = true by decide +kernel⟩
def mX12_explains : qMt := (yX12_explains, cX12_explains, 9, (some .boolean), 3, 71)
theorem moX12_explains : mOK mX12_explains := ⟨show Cond.code yX12_explains cX12_explains 9 (some .boolean) ∈ gws from g_7 129 rfl rfl, iniX12, show RX12 ≠ _ ∧ RX12 ≠ _ by decide +kernel, show plainFor yX12_explains = true by decide +kernel⟩
def mX12_isKnown : qMt := (yX12_isKnown, cX12_isKnown, 10, (some .boolean), 4, 99)
theorem moX12_isKnown : mOK mX12_isKnown := ⟨show Cond.code yX12_isKnown cX12_isKnown 10 (some .boolean) ∈ gws from g_7 125 rfl rfl, iniX12, show RX12 ≠ _ ∧ RX12 ≠ _ by decide +kernel, show plainFor yX12_isKnown = true by decide +kernel⟩
def mX12_isKnownHeard : qMt := (yX12_isKnownHeard, cX12_isKnownHeard, 2, (some .boolean), 5, 128)
theorem moX12_isKnownHeard : mOK mX12_isKnownHeard := ⟨show Cond.code yX12_isKnownHeard cX12_isKnownHeard 2 (some .boolean) ∈ gws from g_7 121 rfl rfl, iniX12, show RX12 ≠ _ ∧ RX12 ≠ _ by decide +kernel, show plainFor yX12_isKnownHeard = true by decide +kernel⟩
def mX12_isKnownEcho : qMt := (yX12_isKnownEcho, cX12_isKnownEcho, 2, (some .boolean), 5, 128)
theorem moX12_isKnownEcho : mOK mX12_isKnownEcho := ⟨show Cond.code yX12_isKnownEcho cX12_isKnownEcho 2 (some .boolean) ∈ gws from g_7 152 rfl rfl, iniX12, show RX12 ≠ _ ∧ RX12 ≠ _ by decide +kernel, show plainFor yX12_isKnownEcho = true by decide +kernel⟩
def mX12_known : qMt := (yX12_known, cX12_known, 3, (some .int), 6, 149)
theorem moX12_known : mOK mX12_known := ⟨show Cond.code yX12_known cX12_known 3 (some .int) ∈ gws from g_7 117 rfl rfl, iniX12, show RX12 ≠ _ ∧ RX12 ≠ _ by decide +kernel, show plainFor yX12_known = true by decide +kernel⟩
def mX12_row : qMt := (yX12_row, cX12_row, 5, (some .int), 2, 42)
theorem moX12_row : mOK mX12_row := ⟨show Cond.code yX12_row cX12_row 5 (some .int) ∈ gws from g_7 156 rfl rfl, iniX12, show RX12 ≠ _ ∧ RX12 ≠ _ by decide +kernel, show plainFor yX12_row = true by decide +kernel⟩
def mX12_torn : qMt := (yX12_torn, cX12_torn, 1, (some .int), 0, 0)
theorem moX12_torn : mOK mX12_torn := ⟨show Cond.code yX12_torn cX12_torn 1 (some .int) ∈ gws from g_7 160 rfl rfl, iniX12, show RX12 ≠ _ ∧ RX12 ≠ _ by decide +kernel, show plainFor yX12_torn = true by decide +kernel⟩
def mX12_laysNew : qMt := (yX12_laysNew, cX12_laysNew, 5, (none : Option Jvm.ClassFile.FieldType), 0, 0)
theorem moX12_laysNew : mOK mX12_laysNew := ⟨show Cond.code yX12_laysNew cX12_laysNew 5 (Option.none : Option Jvm.ClassFile.FieldType) ∈ gws from g_7 176 rfl rfl, iniX12, show RX12 ≠ _ ∧ RX12 ≠ _ by decide +kernel, show plainFor yX12_laysNew = true by decide +kernel⟩
def mX12_laysNews : qMt := (yX12_laysNews, cX12_laysNews, 2, (none : Option Jvm.ClassFile.FieldType), 6, 149)
theorem moX12_laysNews : mOK mX12_laysNews := ⟨show Cond.code yX12_laysNews cX12_laysNews 2 (Option.none : Option Jvm.ClassFile.FieldType) ∈ gws from g_7 172 rfl rfl, iniX12, show RX12 ≠ _ ∧ RX12 ≠ _ by decide +kernel, show plainFor yX12_laysNews = true by decide +kernel⟩
def mX12_isFit : qMt := (yX12_isFit, cX12_isFit, 9, (some .boolean), 3, 74)
theorem moX12_isFit : mOK mX12_isFit := ⟨show Cond.code yX12_isFit cX12_isFit 9 (some .boolean) ∈ gws from g_7 200 rfl rfl, iniX12, show RX12 ≠ _ ∧ RX12 ≠ _ by decide +kernel, show plainFor yX12_isFit = true by decide +kernel⟩
def mX12_missed : qMt := (yX12_missed, cX12_missed, 11, (some .int), 4, 102)
theorem moX12_missed : mOK mX12_missed := ⟨show Cond.code yX12_missed cX12_missed 11 (some .int) ∈ gws from g_7 196 rfl rfl, iniX12, show RX12 ≠ _ ∧ RX12 ≠ _ by decide +kernel, show plainFor yX12_missed = true by decide +kernel⟩
def mX12_missedBest : qMt := (yX12_missedBest, cX12_missedBest, 8, (some .int), 5, 132)
theorem moX12_missedBest : mOK mX12_missedBest := ⟨show Cond.code yX12_missedBest cX12_missedBest 8 (some .int) ∈ gws from g_7 216 rfl rfl, iniX12, show RX12 ≠ _ ∧ RX12 ≠ _ by decide +kernel, show plainFor yX12_missedBest = true by decide +kernel⟩
def mX12_isRun : qMt := (yX12_isRun, cX12_isRun, 6, (some .boolean), 5, 132)
theorem moX12_isRun : mOK mX12_isRun := ⟨show Cond.code yX12_isRun cX12_isRun 6 (some .boolean) ∈ gws from g_7 192 rfl rfl, iniX12, show RX12 ≠ _ ∧ RX12 ≠ _ by decide +kernel, show plainFor yX12_isRun = true by decide +kernel⟩
def mX12_eastOf : qMt := (yX12_eastOf, cX12_eastOf, 1, (some .int), 0, 0)
theorem moX12_eastOf : mOK mX12_eastOf := ⟨show Cond.code yX12_eastOf cX12_eastOf 1 (some .int) ∈ gws from g_7 179 rfl rfl, iniX12, show RX12 ≠ _ ∧ RX12 ≠ _ by decide +kernel, show plainFor yX12_eastOf = true by decide +kernel⟩
def mX12_northOf : qMt := (yX12_northOf, cX12_northOf, 1, (some .int), 0, 0)
theorem moX12_northOf : mOK mX12_northOf := ⟨show Cond.code yX12_northOf cX12_northOf 1 (some .int) ∈ gws from g_7 182 rfl rfl, iniX12, show RX12 ≠ _ ∧ RX12 ≠ _ by decide +kernel, show plainFor yX12_northOf = true by decide +kernel⟩
def mX12_eastBy : qMt := (yX12_eastBy, cX12_eastBy, 1, (some .int), 0, 0)
theorem moX12_eastBy : mOK mX12_eastBy := ⟨show Cond.code yX12_eastBy cX12_eastBy 1 (some .int) ∈ gws from g_7 185 rfl rfl, iniX12, show RX12 ≠ _ ∧ RX12 ≠ _ by decide +kernel, show plainFor yX12_eastBy = true by decide +kernel⟩
def mX12_northBy : qMt := (yX12_northBy, cX12_northBy, 1, (some .int), 0, 0)
theorem moX12_northBy : mOK mX12_northBy := ⟨show Cond.code yX12_northBy cX12_northBy 1 (some .int) ∈ gws from g_7 188 rfl rfl, iniX12, show RX12 ≠ _ ∧ RX12 ≠ _ by decide +kernel, show plainFor yX12_northBy = true by decide +kernel⟩
def mX12_fits : qMt := (yX12_fits, cX12_fits, 2, (none : Option Jvm.ClassFile.FieldType), 7, 170)
theorem moX12_fits : mOK mX12_fits := ⟨show Cond.code yX12_fits cX12_fits 2 (Option.none : Option Jvm.ClassFile.FieldType) ∈ gws from g_7 168 rfl rfl, iniX12, show RX12 ≠ _ ∧ RX12 ≠ _ by decide +kernel, show plainFor yX12_fits = true by decide +kernel⟩
def mX12_runs : qMt := (yX12_runs, cX12_runs, 1, (some .int), 8, 191)
theorem moX12_runs : mOK mX12_runs := ⟨show Cond.code yX12_runs cX12_runs 1 (some .int) ∈ gws from g_7 164 rfl rfl, iniX12, show RX12 ≠ _ ∧ RX12 ≠ _ by decide +kernel, show plainFor yX12_runs = true by decide +kernel⟩
def mX12_run : qMt := (yX12_run, cX12_run, 5, (some .int), 8, 191)
theorem moX12_run : mOK mX12_run := ⟨show Cond.code yX12_run cX12_run 5 (some .int) ∈ gws from g_7 204 rfl rfl, iniX12, show RX12 ≠ _ ∧ RX12 ≠ _ by decide +kernel, show plainFor yX12_run = true by decide +kernel⟩
def mX12_span : qMt := (yX12_span, cX12_span, 7, (some .int), 8, 191)
theorem moX12_span : mOK mX12_span := ⟨show Cond.code yX12_span cX12_span 7 (some .int) ∈ gws from g_7 208 rfl rfl, iniX12, show RX12 ≠ _ ∧ RX12 ≠ _ by decide +kernel, show plainFor yX12_span = true by decide +kernel⟩
def mX12_misses : qMt := (yX12_misses, cX12_misses, 5, (some .int), 7, 170)
theorem moX12_misses : mOK mX12_misses := ⟨show Cond.code yX12_misses cX12_misses 5 (some .int) ∈ gws from g_7 212 rfl rfl, iniX12, show RX12 ≠ _ ∧ RX12 ≠ _ by decide +kernel, show plainFor yX12_misses = true by decide +kernel⟩
def mX12_alone : qMt := (yX12_alone, cX12_alone, 5, (some .int), 9, 217)
theorem moX12_alone : mOK mX12_alone := ⟨show Cond.code yX12_alone cX12_alone 5 (some .int) ∈ gws from g_7 220 rfl rfl, iniX12, show RX12 ≠ _ ∧ RX12 ≠ _ by decide +kernel, show plainFor yX12_alone = true by decide +kernel⟩
def mX12_within : qMt := (yX12_within, cX12_within, 7, (some .int), 8, 191)
theorem moX12_within : mOK mX12_within := ⟨show Cond.code yX12_within cX12_within 7 (some .int) ∈ gws from g_7 225 rfl rfl, iniX12, show RX12 ≠ _ ∧ RX12 ≠ _ by decide +kernel, show plainFor yX12_within = true by decide +kernel⟩
def mX12_judges : qMt := (yX12_judges, cX12_judges, 2, (none : Option Jvm.ClassFile.FieldType), 7, 170)
theorem moX12_judges : mOK mX12_judges := ⟨show Cond.code yX12_judges cX12_judges 2 (Option.none : Option Jvm.ClassFile.FieldType) ∈ gws from g_7 233 rfl rfl, iniX12, show RX12 ≠ _ ∧ RX12 ≠ _ by decide +kernel, show plainFor yX12_judges = true by decide +kernel⟩
def mX12_missingLess : qMt := (yX12_missingLess, cX12_missingLess, 4, (some .int), 0, 0)
theorem moX12_missingLess : mOK mX12_missingLess := ⟨show Cond.code yX12_missingLess cX12_missingLess 4 (some .int) ∈ gws from g_7 237 rfl rfl, iniX12, show RX12 ≠ _ ∧ RX12 ≠ _ by decide +kernel, show plainFor yX12_missingLess = true by decide +kernel⟩
def mX12_least : qMt := (yX12_least, cX12_least, 4, (some .int), 8, 191)
theorem moX12_least : mOK mX12_least := ⟨show Cond.code yX12_least cX12_least 4 (some .int) ∈ gws from g_7 229 rfl rfl, iniX12, show RX12 ≠ _ ∧ RX12 ≠ _ by decide +kernel, show plainFor yX12_least = true by decide +kernel⟩
def mX12_guess : qMt := (yX12_guess, cX12_guess, 7, (some .int), 2, 42)
theorem moX12_guess : mOK mX12_guess := ⟨show Cond.code yX12_guess cX12_guess 7 (some .int) ∈ gws from g_8 1 rfl rfl, iniX12, show RX12 ≠ _ ∧ RX12 ≠ _ by decide +kernel, show plainFor yX12_guess = true by decide +kernel⟩
def mX12_better : qMt := (yX12_better, cX12_better, 3, (some .int), 8, 191)
theorem moX12_better : mOK mX12_better := ⟨show Cond.code yX12_better cX12_better 3 (some .int) ∈ gws from g_8 5 rfl rfl, iniX12, show RX12 ≠ _ ∧ RX12 ≠ _ by decide +kernel, show plainFor yX12_better = true by decide +kernel⟩
def mX12_offer : qMt := (yX12_offer, cX12_offer, 4, (some .int), 2, 42)
theorem moX12_offer : mOK mX12_offer := ⟨show Cond.code yX12_offer cX12_offer 4 (some .int) ∈ gws from g_8 9 rfl rfl, iniX12, show RX12 ≠ _ ∧ RX12 ≠ _ by decide +kernel, show plainFor yX12_offer = true by decide +kernel⟩
def mX12_partsOf : qMt := (yX12_partsOf, cX12_partsOf, 12, (some .int), 8, 191)
theorem moX12_partsOf : mOK mX12_partsOf := ⟨show Cond.code yX12_partsOf cX12_partsOf 12 (some .int) ∈ gws from g_8 20 rfl rfl, iniX12, show RX12 ≠ _ ∧ RX12 ≠ _ by decide +kernel, show plainFor yX12_partsOf = true by decide +kernel⟩
def mX12_isAhead : qMt := (yX12_isAhead, cX12_isAhead, 2, (some .boolean), 2, 42)
theorem moX12_isAhead : mOK mX12_isAhead := ⟨show Cond.code yX12_isAhead cX12_isAhead 2 (some .boolean) ∈ gws from g_8 16 rfl rfl, iniX12, show RX12 ≠ _ ∧ RX12 ≠ _ by decide +kernel, show plainFor yX12_isAhead = true by decide +kernel⟩
def mX12_parts : qMt := (yX12_parts, cX12_parts, 4, (some .int), 9, 222)
theorem moX12_parts : mOK mX12_parts := ⟨show Cond.code yX12_parts cX12_parts 4 (some .int) ∈ gws from g_8 13 rfl rfl, iniX12, show RX12 ≠ _ ∧ RX12 ≠ _ by decide +kernel, show plainFor yX12_parts = true by decide +kernel⟩
def mX12_turn : qMt := (yX12_turn, cX12_turn, 7, (some .int), 9, 222)
theorem moX12_turn : mOK mX12_turn := ⟨show Cond.code yX12_turn cX12_turn 7 (some .int) ∈ gws from g_8 24 rfl rfl, iniX12, show RX12 ≠ _ ∧ RX12 ≠ _ by decide +kernel, show plainFor yX12_turn = true by decide +kernel⟩
def mX12_asksBoat : qMt := (yX12_asksBoat, cX12_asksBoat, 4, (none : Option Jvm.ClassFile.FieldType), 1, 22)
theorem moX12_asksBoat : mOK mX12_asksBoat := ⟨show Cond.code yX12_asksBoat cX12_asksBoat 4 (Option.none : Option Jvm.ClassFile.FieldType) ∈ gws from g_8 36 rfl rfl, iniX12, show RX12 ≠ _ ∧ RX12 ≠ _ by decide +kernel, show plainFor yX12_asksBoat = true by decide +kernel⟩
def mX12_codeAt : qMt := (yX12_codeAt, cX12_codeAt, 2, (some .int), 0, 0)
theorem moX12_codeAt : mOK mX12_codeAt := ⟨show Cond.code yX12_codeAt cX12_codeAt 2 (some .int) ∈ gws from g_8 48 rfl rfl, iniX12, show RX12 ≠ _ ∧ RX12 ≠ _ by decide +kernel, show plainFor yX12_codeAt = true by decide +kernel⟩
def mX12_passes : qMt := (yX12_passes, cX12_passes, 3, (some .boolean), 1, 21)
theorem moX12_passes : mOK mX12_passes := ⟨show Cond.code yX12_passes cX12_passes 3 (some .boolean) ∈ gws from g_8 67 rfl rfl, iniX12, show RX12 ≠ _ ∧ RX12 ≠ _ by decide +kernel, show plainFor yX12_passes = true by decide +kernel⟩
def mX12_bounded : qMt := (yX12_bounded, cX12_bounded, 4, (some .long), 0, 0)
theorem moX12_bounded : mOK mX12_bounded := ⟨show Cond.code yX12_bounded cX12_bounded 4 (some .long) ∈ gws from g_8 71 rfl rfl, iniX12, show RX12 ≠ _ ∧ RX12 ≠ _ by decide +kernel, show plainFor yX12_bounded = true by decide +kernel⟩
def mX12_sign : qMt := (yX12_sign, cX12_sign, 1, (some .int), 0, 0)
theorem moX12_sign : mOK mX12_sign := ⟨show Cond.code yX12_sign cX12_sign 1 (some .int) ∈ gws from g_8 63 rfl rfl, iniX12, show RX12 ≠ _ ∧ RX12 ≠ _ by decide +kernel, show plainFor yX12_sign = true by decide +kernel⟩
def mX12_partOf (d : Nat) : qMt := (yX12_partOf, cX12_partOf, 4, (some .long), 5 * (d + 1) + 2, 96 * (d + 1) + 43)
theorem moX12_partOf (d : Nat) : mOK (mX12_partOf d) := ⟨show Cond.code yX12_partOf cX12_partOf 4 (some .long) ∈ gws from g_8 60 rfl rfl, iniX12, show RX12 ≠ _ ∧ RX12 ≠ _ by decide +kernel, show plainFor yX12_partOf = true by decide +kernel⟩
def mX12_termOf (d : Nat) : qMt := (yX12_termOf, cX12_termOf, 7, (some .long), 5 * (d + 1) + 3, 96 * (d + 1) + 66)
theorem moX12_termOf (d : Nat) : mOK (mX12_termOf d) := ⟨show Cond.code yX12_termOf cX12_termOf 7 (some .long) ∈ gws from g_8 56 rfl rfl, iniX12, show RX12 ≠ _ ∧ RX12 ≠ _ by decide +kernel, show plainFor yX12_termOf = true by decide +kernel⟩
def mX12_sumOf (d : Nat) : qMt := (yX12_sumOf, cX12_sumOf, 7, (some .long), 5 * (d + 1), 96 * (d + 1))
theorem moX12_sumOf (d : Nat) : mOK (mX12_sumOf d) := ⟨show Cond.code yX12_sumOf cX12_sumOf 7 (some .long) ∈ gws from g_8 52 rfl rfl, iniX12, show RX12 ≠ _ ∧ RX12 ≠ _ by decide +kernel, show plainFor yX12_sumOf = true by decide +kernel⟩
def mX12_positiveOf (d : Nat) : qMt := (yX12_positiveOf, cX12_positiveOf, 7, (some .boolean), 60 * (d + 1) + 56, 1157 * (d + 1) + 1082)
theorem moX12_positiveOf (d : Nat) : mOK (mX12_positiveOf d) := ⟨show Cond.code yX12_positiveOf cX12_positiveOf 7 (some .boolean) ∈ gws from g_8 89 rfl rfl, iniX12, show RX12 ≠ _ ∧ RX12 ≠ _ by decide +kernel, show plainFor yX12_positiveOf = true by decide +kernel⟩
def mX12_plainOf (d : Nat) : qMt := (yX12_plainOf, cX12_plainOf, 3, (some .boolean), 60 * (d + 1) + 57, 1157 * (d + 1) + 1108)
theorem moX12_plainOf (d : Nat) : mOK (mX12_plainOf d) := ⟨show Cond.code yX12_plainOf cX12_plainOf 3 (some .boolean) ∈ gws from g_8 85 rfl rfl, iniX12, show RX12 ≠ _ ∧ RX12 ≠ _ by decide +kernel, show plainFor yX12_plainOf = true by decide +kernel⟩
def mX12_bothOf (d : Nat) : qMt := (yX12_bothOf, cX12_bothOf, 4, (some .boolean), 60 * (d + 1) + 58, 1157 * (d + 1) + 1130)
theorem moX12_bothOf (d : Nat) : mOK (mX12_bothOf d) := ⟨show Cond.code yX12_bothOf cX12_bothOf 4 (some .boolean) ∈ gws from g_8 81 rfl rfl, iniX12, show RX12 ≠ _ ∧ RX12 ≠ _ by decide +kernel, show plainFor yX12_bothOf = true by decide +kernel⟩
def mX12_testOf (d : Nat) : qMt := (yX12_testOf, cX12_testOf, 4, (some .boolean), 60 * (d + 1), 1157 * (d + 1))
theorem moX12_testOf (d : Nat) : mOK (mX12_testOf d) := ⟨show Cond.code yX12_testOf cX12_testOf 4 (some .boolean) ∈ gws from g_8 77 rfl rfl, iniX12, show RX12 ≠ _ ∧ RX12 ≠ _ by decide +kernel, show plainFor yX12_testOf = true by decide +kernel⟩
def mX12_tellsOf : qMt := (yX12_tellsOf, cX12_tellsOf, 10, (some .int), 661, 12750)
theorem moX12_tellsOf : mOK mX12_tellsOf := ⟨show Cond.code yX12_tellsOf cX12_tellsOf 10 (some .int) ∈ gws from g_8 44 rfl rfl, iniX12, show RX12 ≠ _ ∧ RX12 ≠ _ by decide +kernel, show plainFor yX12_tellsOf = true by decide +kernel⟩
def mX12_hearsBy : qMt := (yX12_hearsBy, cX12_hearsBy, 3, (none : Option Jvm.ClassFile.FieldType), 662, 12779)
theorem moX12_hearsBy : mOK mX12_hearsBy := ⟨show Cond.code yX12_hearsBy cX12_hearsBy 3 (Option.none : Option Jvm.ClassFile.FieldType) ∈ gws from g_8 40 rfl rfl, iniX12, show RX12 ≠ _ ∧ RX12 ≠ _ by decide +kernel, show plainFor yX12_hearsBy = true by decide +kernel⟩
def mX12_heardByOf : qMt := (yX12_heardByOf, cX12_heardByOf, 13, (some .int), 663, 12801)
theorem moX12_heardByOf : mOK mX12_heardByOf := ⟨show Cond.code yX12_heardByOf cX12_heardByOf 13 (some .int) ∈ gws from g_8 32 rfl rfl, iniX12, show RX12 ≠ _ ∧ RX12 ≠ _ by decide +kernel, show plainFor yX12_heardByOf = true by decide +kernel⟩
def mX12_heardBy : qMt := (yX12_heardBy, cX12_heardBy, 4, (some .int), 664, 12833)
theorem moX12_heardBy : mOK mX12_heardBy := ⟨show Cond.code yX12_heardBy cX12_heardBy 4 (some .int) ∈ gws from g_8 28 rfl rfl, iniX12, show RX12 ≠ _ ∧ RX12 ≠ _ by decide +kernel, show plainFor yX12_heardBy = true by decide +kernel⟩
def mX12_silent : qMt := (yX12_silent, cX12_silent, 8, (some .int), 664, 12833)
theorem moX12_silent : mOK mX12_silent := ⟨show Cond.code yX12_silent cX12_silent 8 (some .int) ∈ gws from g_8 93 rfl rfl, iniX12, show RX12 ≠ _ ∧ RX12 ≠ _ by decide +kernel, show plainFor yX12_silent = true by decide +kernel⟩
def mX12_mays : qMt := (yX12_mays, cX12_mays, 7, (none : Option Jvm.ClassFile.FieldType), 2, 42)
theorem moX12_mays : mOK mX12_mays := ⟨show Cond.code yX12_mays cX12_mays 7 (Option.none : Option Jvm.ClassFile.FieldType) ∈ gws from g_8 102 rfl rfl, iniX12, show RX12 ≠ _ ∧ RX12 ≠ _ by decide +kernel, show plainFor yX12_mays = true by decide +kernel⟩
def mX12_gives (d : Nat) : qMt := (yX12_gives, cX12_gives, 3, (some .boolean), 2 * (d + 1), 26 * (d + 1))
theorem moX12_gives (d : Nat) : mOK (mX12_gives d) := ⟨show Cond.code yX12_gives cX12_gives 3 (some .boolean) ∈ gws from g_8 110 rfl rfl, iniX12, show RX12 ≠ _ ∧ RX12 ≠ _ by decide +kernel, show plainFor yX12_gives = true by decide +kernel⟩
def mX12_joins : qMt := (yX12_joins, cX12_joins, 3, (some .int), 55, 724)
theorem moX12_joins : mOK mX12_joins := ⟨show Cond.code yX12_joins cX12_joins 3 (some .int) ∈ gws from g_8 106 rfl rfl, iniX12, show RX12 ≠ _ ∧ RX12 ≠ _ by decide +kernel, show plainFor yX12_joins = true by decide +kernel⟩
def mX12_traces : qMt := (yX12_traces, cX12_traces, 4, (some .int), 56, 746)
theorem moX12_traces : mOK mX12_traces := ⟨show Cond.code yX12_traces cX12_traces 4 (some .int) ∈ gws from g_8 98 rfl rfl, iniX12, show RX12 ≠ _ ∧ RX12 ≠ _ by decide +kernel, show plainFor yX12_traces = true by decide +kernel⟩
def mX12_fixes : qMt := (yX12_fixes, cX12_fixes, 4, (none : Option Jvm.ClassFile.FieldType), 0, 0)
theorem moX12_fixes : mOK mX12_fixes := ⟨show Cond.code yX12_fixes cX12_fixes 4 (Option.none : Option Jvm.ClassFile.FieldType) ∈ gws from g_8 118 rfl rfl, iniX12, show RX12 ≠ _ ∧ RX12 ≠ _ by decide +kernel, show plainFor yX12_fixes = true by decide +kernel⟩
def mX12_next : qMt := (yX12_next, cX12_next, 7, (some .int), 56, 746)
theorem moX12_next : mOK mX12_next := ⟨show Cond.code yX12_next cX12_next 7 (some .int) ∈ gws from g_8 114 rfl rfl, iniX12, show RX12 ≠ _ ∧ RX12 ≠ _ by decide +kernel, show plainFor yX12_next = true by decide +kernel⟩
def mX12_sure : qMt := (yX12_sure, cX12_sure, 4, (some .int), 56, 746)
theorem moX12_sure : mOK mX12_sure := ⟨show Cond.code yX12_sure cX12_sure 4 (some .int) ∈ gws from g_8 122 rfl rfl, iniX12, show RX12 ≠ _ ∧ RX12 ≠ _ by decide +kernel, show plainFor yX12_sure = true by decide +kernel⟩
def mX12_watch : qMt := (yX12_watch, cX12_watch, 5, (some .int), 6, 149)
theorem moX12_watch : mOK mX12_watch := ⟨show Cond.code yX12_watch cX12_watch 5 (some .int) ∈ gws from g_8 126 rfl rfl, iniX12, show RX12 ≠ _ ∧ RX12 ≠ _ by decide +kernel, show plainFor yX12_watch = true by decide +kernel⟩
def mX12_newOf : qMt := (yX12_newOf, cX12_newOf, 6, (some .int), 0, 0)
theorem moX12_newOf : mOK mX12_newOf := ⟨show Cond.code yX12_newOf cX12_newOf 6 (some .int) ∈ gws from g_8 134 rfl rfl, iniX12, show RX12 ≠ _ ∧ RX12 ≠ _ by decide +kernel, show plainFor yX12_newOf = true by decide +kernel⟩
def mX12_newsOf : qMt := (yX12_newsOf, cX12_newsOf, 4, (some .int), 1, 25)
theorem moX12_newsOf : mOK mX12_newsOf := ⟨show Cond.code yX12_newsOf cX12_newsOf 4 (some .int) ∈ gws from g_8 150 rfl rfl, iniX12, show RX12 ≠ _ ∧ RX12 ≠ _ by decide +kernel, show plainFor yX12_newsOf = true by decide +kernel⟩
def mX12_crosses : qMt := (yX12_crosses, cX12_crosses, 7, (some .int), 4, 102)
theorem moX12_crosses : mOK mX12_crosses := ⟨show Cond.code yX12_crosses cX12_crosses 7 (some .int) ∈ gws from g_8 138 rfl rfl, iniX12, show RX12 ≠ _ ∧ RX12 ≠ _ by decide +kernel, show plainFor yX12_crosses = true by decide +kernel⟩
def mX12_cross : qMt := (yX12_cross, cX12_cross, 6, (some .int), 7, 170)
theorem moX12_cross : mOK mX12_cross := ⟨show Cond.code yX12_cross cX12_cross 6 (some .int) ∈ gws from g_8 130 rfl rfl, iniX12, show RX12 ≠ _ ∧ RX12 ≠ _ by decide +kernel, show plainFor yX12_cross = true by decide +kernel⟩
def mX12_pairs : qMt := (yX12_pairs, cX12_pairs, 10, (some .int), 7, 170)
theorem moX12_pairs : mOK mX12_pairs := ⟨show Cond.code yX12_pairs cX12_pairs 10 (some .int) ∈ gws from g_8 146 rfl rfl, iniX12, show RX12 ≠ _ ∧ RX12 ≠ _ by decide +kernel, show plainFor yX12_pairs = true by decide +kernel⟩
def mX12_pairings : qMt := (yX12_pairings, cX12_pairings, 2, (some .int), 8, 199)
theorem moX12_pairings : mOK mX12_pairings := ⟨show Cond.code yX12_pairings cX12_pairings 2 (some .int) ∈ gws from g_8 142 rfl rfl, iniX12, show RX12 ≠ _ ∧ RX12 ≠ _ by decide +kernel, show plainFor yX12_pairings = true by decide +kernel⟩
def mX12_ghost : qMt := (yX12_ghost, cX12_ghost, 5, (some .int), 8, 199)
theorem moX12_ghost : mOK mX12_ghost := ⟨show Cond.code yX12_ghost cX12_ghost 5 (some .int) ∈ gws from g_8 154 rfl rfl, iniX12, show RX12 ≠ _ ∧ RX12 ≠ _ by decide +kernel, show plainFor yX12_ghost = true by decide +kernel⟩
def mX12_beat : qMt := (yX12_beat, cX12_beat, 3, (some .int), 1, 22)
theorem moX12_beat : mOK mX12_beat := ⟨show Cond.code yX12_beat cX12_beat 3 (some .int) ∈ gws from g_8 158 rfl rfl, iniX12, show RX12 ≠ _ ∧ RX12 ≠ _ by decide +kernel, show plainFor yX12_beat = true by decide +kernel⟩
def mX12_isScrew : qMt := (yX12_isScrew, cX12_isScrew, 6, (some .boolean), 1, 20)
theorem moX12_isScrew : mOK mX12_isScrew := ⟨show Cond.code yX12_isScrew cX12_isScrew 6 (some .boolean) ∈ gws from g_8 170 rfl rfl, iniX12, show RX12 ≠ _ ∧ RX12 ≠ _ by decide +kernel, show plainFor yX12_isScrew = true by decide +kernel⟩
def mX12_screwAt : qMt := (yX12_screwAt, cX12_screwAt, 5, (some .int), 2, 45)
theorem moX12_screwAt : mOK mX12_screwAt := ⟨show Cond.code yX12_screwAt cX12_screwAt 5 (some .int) ∈ gws from g_8 166 rfl rfl, iniX12, show RX12 ≠ _ ∧ RX12 ≠ _ by decide +kernel, show plainFor yX12_screwAt = true by decide +kernel⟩
def mX12_screws : qMt := (yX12_screws, cX12_screws, 1, (some .int), 3, 69)
theorem moX12_screws : mOK mX12_screws := ⟨show Cond.code yX12_screws cX12_screws 1 (some .int) ∈ gws from g_8 162 rfl rfl, iniX12, show RX12 ≠ _ ∧ RX12 ≠ _ by decide +kernel, show plainFor yX12_screws = true by decide +kernel⟩
def mX12_screw : qMt := (yX12_screw, cX12_screw, 4, (some .int), 3, 69)
theorem moX12_screw : mOK mX12_screw := ⟨show Cond.code yX12_screw cX12_screw 4 (some .int) ∈ gws from g_8 174 rfl rfl, iniX12, show RX12 ≠ _ ∧ RX12 ≠ _ by decide +kernel, show plainFor yX12_screw = true by decide +kernel⟩
def mX12_feed : qMt := (yX12_feed, cX12_feed, 7, (some .int), 0, 0)
theorem moX12_feed : mOK mX12_feed := ⟨show Cond.code yX12_feed cX12_feed 7 (some .int) ∈ gws from g_8 178 rfl rfl, iniX12, show RX12 ≠ _ ∧ RX12 ≠ _ by decide +kernel, show plainFor yX12_feed = true by decide +kernel⟩
def mX12_end : qMt := (yX12_end, cX12_end, 2, (some .int), 1, 22)
theorem moX12_end : mOK mX12_end := ⟨show Cond.code yX12_end cX12_end 2 (some .int) ∈ gws from g_8 182 rfl rfl, iniX12, show RX12 ≠ _ ∧ RX12 ≠ _ by decide +kernel, show plainFor yX12_end = true by decide +kernel⟩
def mX12_isSmall : qMt := (yX12_isSmall, cX12_isSmall, 1, (some .boolean), 0, 0)
theorem moX12_isSmall : mOK mX12_isSmall := ⟨show Cond.code yX12_isSmall cX12_isSmall 1 (some .boolean) ∈ gws from g_8 197 rfl rfl, iniX12, show RX12 ≠ _ ∧ RX12 ≠ _ by decide +kernel, show plainFor yX12_isSmall = true by decide +kernel⟩
def mX12_isDigit : qMt := (yX12_isDigit, cX12_isDigit, 1, (some .boolean), 0, 0)
theorem moX12_isDigit : mOK mX12_isDigit := ⟨show Cond.code yX12_isDigit cX12_isDigit 1 (some .boolean) ∈ gws from g_8 200 rfl rfl, iniX12, show RX12 ≠ _ ∧ RX12 ≠ _ by decide +kernel, show plainFor yX12_isDigit = true by decide +kernel⟩
def mX12_wordOf : qMt := (yX12_wordOf, cX12_wordOf, 8, (some .int), 0, 0)
theorem moX12_wordOf : mOK mX12_wordOf := ⟨show Cond.code yX12_wordOf cX12_wordOf 8 (some .int) ∈ gws from g_8 204 rfl rfl, iniX12, show RX12 ≠ _ ∧ RX12 ≠ _ by decide +kernel, show plainFor yX12_wordOf = true by decide +kernel⟩
def mX12_splits : qMt := (yX12_splits, cX12_splits, 6, (none : Option Jvm.ClassFile.FieldType), 1, 27)
theorem moX12_splits : mOK mX12_splits := ⟨show Cond.code yX12_splits cX12_splits 6 (Option.none : Option Jvm.ClassFile.FieldType) ∈ gws from g_8 194 rfl rfl, iniX12, show RX12 ≠ _ ∧ RX12 ≠ _ by decide +kernel, show plainFor yX12_splits = true by decide +kernel⟩
def mX12_fine : qMt := (yX12_fine, cX12_fine, 1, (some .boolean), 0, 0)
theorem moX12_fine : mOK mX12_fine := ⟨show Cond.code yX12_fine cX12_fine 1 (some .boolean) ∈ gws from g_8 213 rfl rfl, iniX12, show RX12 ≠ _ ∧ RX12 ≠ _ by decide +kernel, show plainFor yX12_fine = true by decide +kernel⟩
def mX12_faults : qMt := (yX12_faults, cX12_faults, 1, (none : Option Jvm.ClassFile.FieldType), 1, 20)
theorem moX12_faults : mOK mX12_faults := ⟨show Cond.code yX12_faults cX12_faults 1 (Option.none : Option Jvm.ClassFile.FieldType) ∈ gws from g_8 217 rfl rfl, iniX12, show RX12 ≠ _ ∧ RX12 ≠ _ by decide +kernel, show plainFor yX12_faults = true by decide +kernel⟩
def mX12_takes : qMt := (yX12_takes, cX12_takes, 3, (some .boolean), 1, 20)
theorem moX12_takes : mOK mX12_takes := ⟨show Cond.code yX12_takes cX12_takes 3 (some .boolean) ∈ gws from g_8 237 rfl rfl, iniX12, show RX12 ≠ _ ∧ RX12 ≠ _ by decide +kernel, show plainFor yX12_takes = true by decide +kernel⟩
def mX12_must : qMt := (yX12_must, cX12_must, 2, (none : Option Jvm.ClassFile.FieldType), 2, 42)
theorem moX12_must : mOK mX12_must := ⟨show Cond.code yX12_must cX12_must 2 (Option.none : Option Jvm.ClassFile.FieldType) ∈ gws from g_8 233 rfl rfl, iniX12, show RX12 ≠ _ ∧ RX12 ≠ _ by decide +kernel, show plainFor yX12_must = true by decide +kernel⟩
def mX12_leaf : qMt := (yX12_leaf, cX12_leaf, 1, (none : Option Jvm.ClassFile.FieldType), 2, 40)
theorem moX12_leaf : mOK mX12_leaf := ⟨show Cond.code yX12_leaf cX12_leaf 1 (Option.none : Option Jvm.ClassFile.FieldType) ∈ gws from g_9 1 rfl rfl, iniX12, show RX12 ≠ _ ∧ RX12 ≠ _ by decide +kernel, show plainFor yX12_leaf = true by decide +kernel⟩
def mX12_readPart (d : Nat) : qMt := (yX12_readPart, cX12_readPart, 3, (none : Option Jvm.ClassFile.FieldType), 6 * (d + 1) + 3, 110 * (d + 1) + 63)
theorem moX12_readPart (d : Nat) : mOK (mX12_readPart d) := ⟨show Cond.code yX12_readPart cX12_readPart 3 (Option.none : Option Jvm.ClassFile.FieldType) ∈ gws from g_8 229 rfl rfl, iniX12, show RX12 ≠ _ ∧ RX12 ≠ _ by decide +kernel, show plainFor yX12_readPart = true by decide +kernel⟩
def mX12_readTerm (d : Nat) : qMt := (yX12_readTerm, cX12_readTerm, 2, (none : Option Jvm.ClassFile.FieldType), 6 * (d + 1) + 4, 110 * (d + 1) + 85)
theorem moX12_readTerm (d : Nat) : mOK (mX12_readTerm d) := ⟨show Cond.code yX12_readTerm cX12_readTerm 2 (Option.none : Option Jvm.ClassFile.FieldType) ∈ gws from g_8 225 rfl rfl, iniX12, show RX12 ≠ _ ∧ RX12 ≠ _ by decide +kernel, show plainFor yX12_readTerm = true by decide +kernel⟩
def mX12_readSum (d : Nat) : qMt := (yX12_readSum, cX12_readSum, 2, (none : Option Jvm.ClassFile.FieldType), 6 * (d + 1), 110 * (d + 1))
theorem moX12_readSum (d : Nat) : mOK (mX12_readSum d) := ⟨show Cond.code yX12_readSum cX12_readSum 2 (Option.none : Option Jvm.ClassFile.FieldType) ∈ gws from g_8 221 rfl rfl, iniX12, show RX12 ≠ _ ∧ RX12 ≠ _ by decide +kernel, show plainFor yX12_readSum = true by decide +kernel⟩
def mX12_readPlain (d : Nat) : qMt := (yX12_readPlain, cX12_readPlain, 4, (none : Option Jvm.ClassFile.FieldType), 70 * (d + 1) + 67, 1279 * (d + 1) + 1231)
theorem moX12_readPlain (d : Nat) : mOK (mX12_readPlain d) := ⟨show Cond.code yX12_readPlain cX12_readPlain 4 (Option.none : Option Jvm.ClassFile.FieldType) ∈ gws from g_9 13 rfl rfl, iniX12, show RX12 ≠ _ ∧ RX12 ≠ _ by decide +kernel, show plainFor yX12_readPlain = true by decide +kernel⟩
def mX12_readBoth (d : Nat) : qMt := (yX12_readBoth, cX12_readBoth, 2, (none : Option Jvm.ClassFile.FieldType), 70 * (d + 1) + 68, 1279 * (d + 1) + 1254)
theorem moX12_readBoth (d : Nat) : mOK (mX12_readBoth d) := ⟨show Cond.code yX12_readBoth cX12_readBoth 2 (Option.none : Option Jvm.ClassFile.FieldType) ∈ gws from g_9 9 rfl rfl, iniX12, show RX12 ≠ _ ∧ RX12 ≠ _ by decide +kernel, show plainFor yX12_readBoth = true by decide +kernel⟩
def mX12_readTest (d : Nat) : qMt := (yX12_readTest, cX12_readTest, 2, (none : Option Jvm.ClassFile.FieldType), 70 * (d + 1), 1279 * (d + 1))
theorem moX12_readTest (d : Nat) : mOK (mX12_readTest d) := ⟨show Cond.code yX12_readTest cX12_readTest 2 (Option.none : Option Jvm.ClassFile.FieldType) ∈ gws from g_9 5 rfl rfl, iniX12, show RX12 ≠ _ ∧ RX12 ≠ _ by decide +kernel, show plainFor yX12_readTest = true by decide +kernel⟩
def mX12_readClause : qMt := (yX12_readClause, cX12_readClause, 1, (none : Option Jvm.ClassFile.FieldType), 771, 14090)
theorem moX12_readClause : mOK mX12_readClause := ⟨show Cond.code yX12_readClause cX12_readClause 1 (Option.none : Option Jvm.ClassFile.FieldType) ∈ gws from g_8 209 rfl rfl, iniX12, show RX12 ≠ _ ∧ RX12 ≠ _ by decide +kernel, show plainFor yX12_readClause = true by decide +kernel⟩
def mX12_reads : qMt := (yX12_reads, cX12_reads, 2, (some .boolean), 772, 14110)
theorem moX12_reads : mOK mX12_reads := ⟨show Cond.code yX12_reads cX12_reads 2 (some .boolean) ∈ gws from g_8 190 rfl rfl, iniX12, show RX12 ≠ _ ∧ RX12 ≠ _ by decide +kernel, show plainFor yX12_reads = true by decide +kernel⟩
def mX12_law : qMt := (yX12_law, cX12_law, 2, (some .int), 773, 14131)
theorem moX12_law : mOK mX12_law := ⟨show Cond.code yX12_law cX12_law 2 (some .int) ∈ gws from g_8 186 rfl rfl, iniX12, show RX12 ≠ _ ∧ RX12 ≠ _ by decide +kernel, show plainFor yX12_law = true by decide +kernel⟩
def mX12_fault : qMt := (yX12_fault, cX12_fault, 1, (some .int), 0, 0)
theorem moX12_fault : mOK mX12_fault := ⟨show Cond.code yX12_fault cX12_fault 1 (some .int) ∈ gws from g_9 17 rfl rfl, iniX12, show RX12 ≠ _ ∧ RX12 ≠ _ by decide +kernel, show plainFor yX12_fault = true by decide +kernel⟩
def mX12_tells : qMt := (yX12_tells, cX12_tells, 5, (some .int), 662, 12779)
theorem moX12_tells : mOK mX12_tells := ⟨show Cond.code yX12_tells cX12_tells 5 (some .int) ∈ gws from g_9 21 rfl rfl, iniX12, show RX12 ≠ _ ∧ RX12 ≠ _ by decide +kernel, show plainFor yX12_tells = true by decide +kernel⟩
def mX12_hears : qMt := (yX12_hears, cX12_hears, 7, (some .int), 663, 12801)
theorem moX12_hears : mOK mX12_hears := ⟨show Cond.code yX12_hears cX12_hears 7 (some .int) ∈ gws from g_9 26 rfl rfl, iniX12, show RX12 ≠ _ ∧ RX12 ≠ _ by decide +kernel, show plainFor yX12_hears = true by decide +kernel⟩
def mX12_cell : qMt := (yX12_cell, cX12_cell, 4, (some .int), 1, 22)
theorem moX12_cell : mOK mX12_cell := ⟨show Cond.code yX12_cell cX12_cell 4 (some .int) ∈ gws from g_9 30 rfl rfl, iniX12, show RX12 ≠ _ ∧ RX12 ≠ _ by decide +kernel, show plainFor yX12_cell = true by decide +kernel⟩
def mX12_chance : qMt := (yX12_chance, cX12_chance, 7, (some .long), 0, 0)
theorem moX12_chance : mOK mX12_chance := ⟨show Cond.code yX12_chance cX12_chance 7 (some .long) ∈ gws from g_9 44 rfl rfl, iniX12, show RX12 ≠ _ ∧ RX12 ≠ _ by decide +kernel, show plainFor yX12_chance = true by decide +kernel⟩
def mX12_searches : qMt := (yX12_searches, cX12_searches, 10, (none : Option Jvm.ClassFile.FieldType), 1, 26)
theorem moX12_searches : mOK mX12_searches := ⟨show Cond.code yX12_searches cX12_searches 10 (Option.none : Option Jvm.ClassFile.FieldType) ∈ gws from g_9 39 rfl rfl, iniX12, show RX12 ≠ _ ∧ RX12 ≠ _ by decide +kernel, show plainFor yX12_searches = true by decide +kernel⟩
def mX12_search : qMt := (yX12_search, cX12_search, 11, (some .long), 2, 55)
theorem moX12_search : mOK mX12_search := ⟨show Cond.code yX12_search cX12_search 11 (some .long) ∈ gws from g_9 34 rfl rfl, iniX12, show RX12 ≠ _ ∧ RX12 ≠ _ by decide +kernel, show plainFor yX12_search = true by decide +kernel⟩
def mX12_looks : qMt := (yX12_looks, cX12_looks, 3, (some .int), 2, 55)
theorem moX12_looks : mOK mX12_looks := ⟨show Cond.code yX12_looks cX12_looks 3 (some .int) ∈ gws from g_9 49 rfl rfl, iniX12, show RX12 ≠ _ ∧ RX12 ≠ _ by decide +kernel, show plainFor yX12_looks = true by decide +kernel⟩
def mX12_count : qMt := (yX12_count, cX12_count, 2, (some .int), 7, 170)
theorem moX12_count : mOK mX12_count := ⟨show Cond.code yX12_count cX12_count 2 (some .int) ∈ gws from g_9 53 rfl rfl, iniX12, show RX12 ≠ _ ∧ RX12 ≠ _ by decide +kernel, show plainFor yX12_count = true by decide +kernel⟩
def mX12_status : qMt := (yX12_status, cX12_status, 1, (some .int), 0, 0)
theorem moX12_status : mOK mX12_status := ⟨show Cond.code yX12_status cX12_status 1 (some .int) ∈ gws from g_9 57 rfl rfl, iniX12, show RX12 ≠ _ ∧ RX12 ≠ _ by decide +kernel, show plainFor yX12_status = true by decide +kernel⟩
theorem foX0_9 : fOK RX0 9 0 0 := ⟨RX0, TX0, 4, tyX0, rfl, by decide, inX0, tyX0_ok, nmX0, rfl, Or.inl (g_2 8 (by decide +kernel) rfl)⟩
theorem foX0_15 : fOK RX0 15 0 1 := ⟨RX0, TX0, 4, tyX0, rfl, by decide, inX0, tyX0_ok, nmX0, rfl, Or.inl (g_2 9 (by decide +kernel) rfl)⟩
theorem foX0_18 : fOK RX0 18 0 2 := ⟨RX0, TX0, 4, tyX0, rfl, by decide, inX0, tyX0_ok, nmX0, rfl, Or.inl (g_2 10 (by decide +kernel) rfl)⟩
theorem foX0_21 : fOK RX0 21 0 3 := ⟨RX0, TX0, 4, tyX0, rfl, by decide, inX0, tyX0_ok, nmX0, rfl, Or.inl (g_2 11 (by decide +kernel) rfl)⟩
theorem foX1_14 : fOK RX1 14 1 0 := ⟨RX1, TX1, 5, tyX1, rfl, by decide, inX1, tyX1_ok, nmX1, rfl, Or.inl (g_1 72 (by decide +kernel) rfl)⟩
theorem foX1_20 : fOK RX1 20 1 1 := ⟨RX1, TX1, 5, tyX1, rfl, by decide, inX1, tyX1_ok, nmX1, rfl, Or.inl (g_1 74 (by decide +kernel) rfl)⟩
theorem foX1_24 : fOK RX1 24 1 2 := ⟨RX1, TX1, 5, tyX1, rfl, by decide, inX1, tyX1_ok, nmX1, rfl, Or.inl (g_1 77 (by decide +kernel) rfl)⟩
theorem foX1_27 : fOK RX1 27 1 3 := ⟨RX1, TX1, 5, tyX1, rfl, by decide, inX1, tyX1_ok, nmX1, rfl, Or.inl (g_1 80 (by decide +kernel) rfl)⟩
theorem foX1_30 : fOK RX1 30 1 4 := ⟨RX1, TX1, 5, tyX1, rfl, by decide, inX1, tyX1_ok, nmX1, rfl, Or.inl (g_1 82 (by decide +kernel) rfl)⟩
theorem foX1_34 : fOK RX1 34 8 3 := ⟨RX8, TX8, 4, tyX8, rfl, by decide, inX8, tyX8_ok, nmX8, rfl, Or.inr ⟨"HullEars", n_1 56 (by decide +kernel) rfl⟩⟩
theorem foX10_9 : fOK RX10 9 10 0 := ⟨RX10, TX10, 3, tyX10, rfl, by decide, inX10, tyX10_ok, nmX10, rfl, Or.inl (g_1 105 (by decide +kernel) rfl)⟩
theorem foX10_15 : fOK RX10 15 10 1 := ⟨RX10, TX10, 3, tyX10, rfl, by decide, inX10, tyX10_ok, nmX10, rfl, Or.inl (g_1 106 (by decide +kernel) rfl)⟩
theorem foX10_18 : fOK RX10 18 10 2 := ⟨RX10, TX10, 3, tyX10, rfl, by decide, inX10, tyX10_ok, nmX10, rfl, Or.inl (g_1 107 (by decide +kernel) rfl)⟩
theorem foX11_12 : fOK RX11 12 11 0 := ⟨RX11, TX11, 14, tyX11, rfl, by decide, inX11, tyX11_ok, nmX11, rfl, Or.inl (g_2 180 (by decide +kernel) rfl)⟩
theorem foX11_16 : fOK RX11 16 11 1 := ⟨RX11, TX11, 14, tyX11, rfl, by decide, inX11, tyX11_ok, nmX11, rfl, Or.inl (g_2 181 (by decide +kernel) rfl)⟩
theorem foX11_20 : fOK RX11 20 11 2 := ⟨RX11, TX11, 14, tyX11, rfl, by decide, inX11, tyX11_ok, nmX11, rfl, Or.inl (g_2 182 (by decide +kernel) rfl)⟩
theorem foX11_29 : fOK RX11 29 11 3 := ⟨RX11, TX11, 14, tyX11, rfl, by decide, inX11, tyX11_ok, nmX11, rfl, Or.inl (g_2 183 (by decide +kernel) rfl)⟩
theorem foX11_38 : fOK RX11 38 11 4 := ⟨RX11, TX11, 14, tyX11, rfl, by decide, inX11, tyX11_ok, nmX11, rfl, Or.inl (g_2 184 (by decide +kernel) rfl)⟩
theorem foX11_45 : fOK RX11 45 11 5 := ⟨RX11, TX11, 14, tyX11, rfl, by decide, inX11, tyX11_ok, nmX11, rfl, Or.inl (g_2 185 (by decide +kernel) rfl)⟩
theorem foX11_52 : fOK RX11 52 11 6 := ⟨RX11, TX11, 14, tyX11, rfl, by decide, inX11, tyX11_ok, nmX11, rfl, Or.inl (g_2 186 (by decide +kernel) rfl)⟩
theorem foX11_56 : fOK RX11 56 11 7 := ⟨RX11, TX11, 14, tyX11, rfl, by decide, inX11, tyX11_ok, nmX11, rfl, Or.inl (g_2 187 (by decide +kernel) rfl)⟩
theorem foX11_60 : fOK RX11 60 11 8 := ⟨RX11, TX11, 14, tyX11, rfl, by decide, inX11, tyX11_ok, nmX11, rfl, Or.inl (g_2 188 (by decide +kernel) rfl)⟩
theorem foX11_63 : fOK RX11 63 11 9 := ⟨RX11, TX11, 14, tyX11, rfl, by decide, inX11, tyX11_ok, nmX11, rfl, Or.inl (g_2 189 (by decide +kernel) rfl)⟩
theorem foX11_66 : fOK RX11 66 11 10 := ⟨RX11, TX11, 14, tyX11, rfl, by decide, inX11, tyX11_ok, nmX11, rfl, Or.inl (g_2 190 (by decide +kernel) rfl)⟩
theorem foX11_70 : fOK RX11 70 11 11 := ⟨RX11, TX11, 14, tyX11, rfl, by decide, inX11, tyX11_ok, nmX11, rfl, Or.inl (g_2 191 (by decide +kernel) rfl)⟩
theorem foX11_73 : fOK RX11 73 11 12 := ⟨RX11, TX11, 14, tyX11, rfl, by decide, inX11, tyX11_ok, nmX11, rfl, Or.inl (g_2 192 (by decide +kernel) rfl)⟩
theorem foX11_76 : fOK RX11 76 11 13 := ⟨RX11, TX11, 14, tyX11, rfl, by decide, inX11, tyX11_ok, nmX11, rfl, Or.inl (g_2 193 (by decide +kernel) rfl)⟩
theorem foX11_95 : fOK RX11 95 2 0 := ⟨RX2, TX2, 12, tyX2, rfl, by decide, inX2, tyX2_ok, nmX2, rfl, Or.inr ⟨"HullEars", n_1 158 (by decide +kernel) rfl⟩⟩
theorem foX11_99 : fOK RX11 99 1 0 := ⟨RX1, TX1, 5, tyX1, rfl, by decide, inX1, tyX1_ok, nmX1, rfl, Or.inr ⟨"HullEars", n_1 73 (by decide +kernel) rfl⟩⟩
theorem foX11_105 : fOK RX11 105 8 3 := ⟨RX8, TX8, 4, tyX8, rfl, by decide, inX8, tyX8_ok, nmX8, rfl, Or.inr ⟨"HullEars", n_1 59 (by decide +kernel) rfl⟩⟩
theorem foX11_138 : fOK RX11 138 1 1 := ⟨RX1, TX1, 5, tyX1, rfl, by decide, inX1, tyX1_ok, nmX1, rfl, Or.inr ⟨"HullEars", n_1 75 (by decide +kernel) rfl⟩⟩
theorem foX11_141 : fOK RX11 141 1 2 := ⟨RX1, TX1, 5, tyX1, rfl, by decide, inX1, tyX1_ok, nmX1, rfl, Or.inr ⟨"HullEars", n_1 78 (by decide +kernel) rfl⟩⟩
theorem foX11_144 : fOK RX11 144 1 3 := ⟨RX1, TX1, 5, tyX1, rfl, by decide, inX1, tyX1_ok, nmX1, rfl, Or.inr ⟨"HullEars", n_1 81 (by decide +kernel) rfl⟩⟩
theorem foX11_156 : fOK RX11 156 2 2 := ⟨RX2, TX2, 12, tyX2, rfl, by decide, inX2, tyX2_ok, nmX2, rfl, Or.inr ⟨"HullEars", n_1 166 (by decide +kernel) rfl⟩⟩
theorem foX11_159 : fOK RX11 159 2 1 := ⟨RX2, TX2, 12, tyX2, rfl, by decide, inX2, tyX2_ok, nmX2, rfl, Or.inr ⟨"HullEars", n_1 162 (by decide +kernel) rfl⟩⟩
theorem foX11_163 : fOK RX11 163 10 2 := ⟨RX10, TX10, 3, tyX10, rfl, by decide, inX10, tyX10_ok, nmX10, rfl, Or.inr ⟨"HullEars", n_1 108 (by decide +kernel) rfl⟩⟩
theorem foX11_171 : fOK RX11 171 3 4 := ⟨RX3, TX3, 18, tyX3, rfl, by decide, inX3, tyX3_ok, nmX3, rfl, Or.inr ⟨"HullEars", n_2 28 (by decide +kernel) rfl⟩⟩
theorem foX11_184 : fOK RX11 184 2 3 := ⟨RX2, TX2, 12, tyX2, rfl, by decide, inX2, tyX2_ok, nmX2, rfl, Or.inr ⟨"HullEars", n_1 171 (by decide +kernel) rfl⟩⟩
theorem foX11_191 : fOK RX11 191 2 4 := ⟨RX2, TX2, 12, tyX2, rfl, by decide, inX2, tyX2_ok, nmX2, rfl, Or.inr ⟨"HullEars", n_1 174 (by decide +kernel) rfl⟩⟩
theorem foX11_194 : fOK RX11 194 2 5 := ⟨RX2, TX2, 12, tyX2, rfl, by decide, inX2, tyX2_ok, nmX2, rfl, Or.inr ⟨"HullEars", n_1 177 (by decide +kernel) rfl⟩⟩
theorem foX11_197 : fOK RX11 197 2 6 := ⟨RX2, TX2, 12, tyX2, rfl, by decide, inX2, tyX2_ok, nmX2, rfl, Or.inr ⟨"HullEars", n_1 180 (by decide +kernel) rfl⟩⟩
theorem foX11_203 : fOK RX11 203 3 12 := ⟨RX3, TX3, 18, tyX3, rfl, by decide, inX3, tyX3_ok, nmX3, rfl, Or.inr ⟨"HullEars", n_2 38 (by decide +kernel) rfl⟩⟩
theorem foX11_206 : fOK RX11 206 3 13 := ⟨RX3, TX3, 18, tyX3, rfl, by decide, inX3, tyX3_ok, nmX3, rfl, Or.inr ⟨"HullEars", n_2 40 (by decide +kernel) rfl⟩⟩
theorem foX11_224 : fOK RX11 224 2 11 := ⟨RX2, TX2, 12, tyX2, rfl, by decide, inX2, tyX2_ok, nmX2, rfl, Or.inr ⟨"HullEars", n_1 190 (by decide +kernel) rfl⟩⟩
theorem foX11_228 : fOK RX11 228 6 0 := ⟨RX6, TX6, 7, tyX6, rfl, by decide, inX6, tyX6_ok, nmX6, rfl, Or.inr ⟨"HullEars", n_2 158 (by decide +kernel) rfl⟩⟩
theorem foX11_237 : fOK RX11 237 5 0 := ⟨RX5, TX5, 7, tyX5, rfl, by decide, inX5, tyX5_ok, nmX5, rfl, Or.inr ⟨"HullEars", n_1 130 (by decide +kernel) rfl⟩⟩
theorem foX11_246 : fOK RX11 246 3 14 := ⟨RX3, TX3, 18, tyX3, rfl, by decide, inX3, tyX3_ok, nmX3, rfl, Or.inr ⟨"HullEars", n_2 42 (by decide +kernel) rfl⟩⟩
theorem foX11_269 : fOK RX11 269 9 6 := ⟨RX9, TX9, 9, tyX9, rfl, by decide, inX9, tyX9_ok, nmX9, rfl, Or.inr ⟨"HullEars", n_2 96 (by decide +kernel) rfl⟩⟩
theorem foX11_275 : fOK RX11 275 9 7 := ⟨RX9, TX9, 9, tyX9, rfl, by decide, inX9, tyX9_ok, nmX9, rfl, Or.inr ⟨"HullEars", n_2 98 (by decide +kernel) rfl⟩⟩
theorem foX11_278 : fOK RX11 278 2 7 := ⟨RX2, TX2, 12, tyX2, rfl, by decide, inX2, tyX2_ok, nmX2, rfl, Or.inr ⟨"HullEars", n_1 182 (by decide +kernel) rfl⟩⟩
theorem foX11_284 : fOK RX11 284 2 8 := ⟨RX2, TX2, 12, tyX2, rfl, by decide, inX2, tyX2_ok, nmX2, rfl, Or.inr ⟨"HullEars", n_1 184 (by decide +kernel) rfl⟩⟩
theorem foX11_313 : fOK RX11 313 4 5 := ⟨RX4, TX4, 7, tyX4, rfl, by decide, inX4, tyX4_ok, nmX4, rfl, Or.inr ⟨"HullEars", n_2 131 (by decide +kernel) rfl⟩⟩
theorem foX11_316 : fOK RX11 316 4 6 := ⟨RX4, TX4, 7, tyX4, rfl, by decide, inX4, tyX4_ok, nmX4, rfl, Or.inr ⟨"HullEars", n_2 133 (by decide +kernel) rfl⟩⟩
theorem foX11_341 : fOK RX11 341 2 9 := ⟨RX2, TX2, 12, tyX2, rfl, by decide, inX2, tyX2_ok, nmX2, rfl, Or.inr ⟨"HullEars", n_1 186 (by decide +kernel) rfl⟩⟩
theorem foX11_348 : fOK RX11 348 1 4 := ⟨RX1, TX1, 5, tyX1, rfl, by decide, inX1, tyX1_ok, nmX1, rfl, Or.inr ⟨"HullEars", n_1 84 (by decide +kernel) rfl⟩⟩
theorem foX11_358 : fOK RX11 358 2 10 := ⟨RX2, TX2, 12, tyX2, rfl, by decide, inX2, tyX2_ok, nmX2, rfl, Or.inr ⟨"HullEars", n_1 188 (by decide +kernel) rfl⟩⟩
theorem foX11_377 : fOK RX11 377 3 1 := ⟨RX3, TX3, 18, tyX3, rfl, by decide, inX3, tyX3_ok, nmX3, rfl, Or.inr ⟨"HullEars", n_2 24 (by decide +kernel) rfl⟩⟩
theorem foX12_3 : fOK RX12 3 12 0 := ⟨RX12, TX12, 45, tyX12, rfl, by decide, inX12, tyX12_ok, nmX12, rfl, Or.inl (g_6 94 (by decide +kernel) rfl)⟩
theorem foX12_7 : fOK RX12 7 12 1 := ⟨RX12, TX12, 45, tyX12, rfl, by decide, inX12, tyX12_ok, nmX12, rfl, Or.inl (g_6 95 (by decide +kernel) rfl)⟩
theorem foX12_11 : fOK RX12 11 12 2 := ⟨RX12, TX12, 45, tyX12, rfl, by decide, inX12, tyX12_ok, nmX12, rfl, Or.inl (g_6 96 (by decide +kernel) rfl)⟩
theorem foX12_20 : fOK RX12 20 12 3 := ⟨RX12, TX12, 45, tyX12, rfl, by decide, inX12, tyX12_ok, nmX12, rfl, Or.inl (g_6 97 (by decide +kernel) rfl)⟩
theorem foX12_23 : fOK RX12 23 12 4 := ⟨RX12, TX12, 45, tyX12, rfl, by decide, inX12, tyX12_ok, nmX12, rfl, Or.inl (g_6 98 (by decide +kernel) rfl)⟩
theorem foX12_26 : fOK RX12 26 12 5 := ⟨RX12, TX12, 45, tyX12, rfl, by decide, inX12, tyX12_ok, nmX12, rfl, Or.inl (g_6 99 (by decide +kernel) rfl)⟩
theorem foX12_30 : fOK RX12 30 12 6 := ⟨RX12, TX12, 45, tyX12, rfl, by decide, inX12, tyX12_ok, nmX12, rfl, Or.inl (g_6 100 (by decide +kernel) rfl)⟩
theorem foX12_33 : fOK RX12 33 12 7 := ⟨RX12, TX12, 45, tyX12, rfl, by decide, inX12, tyX12_ok, nmX12, rfl, Or.inl (g_6 101 (by decide +kernel) rfl)⟩
theorem foX12_36 : fOK RX12 36 12 9 := ⟨RX12, TX12, 45, tyX12, rfl, by decide, inX12, tyX12_ok, nmX12, rfl, Or.inl (g_6 103 (by decide +kernel) rfl)⟩
theorem foX12_40 : fOK RX12 40 12 11 := ⟨RX12, TX12, 45, tyX12, rfl, by decide, inX12, tyX12_ok, nmX12, rfl, Or.inl (g_6 105 (by decide +kernel) rfl)⟩
theorem foX12_43 : fOK RX12 43 12 13 := ⟨RX12, TX12, 45, tyX12, rfl, by decide, inX12, tyX12_ok, nmX12, rfl, Or.inl (g_6 107 (by decide +kernel) rfl)⟩
theorem foX12_46 : fOK RX12 46 12 14 := ⟨RX12, TX12, 45, tyX12, rfl, by decide, inX12, tyX12_ok, nmX12, rfl, Or.inl (g_6 108 (by decide +kernel) rfl)⟩
theorem foX12_50 : fOK RX12 50 12 15 := ⟨RX12, TX12, 45, tyX12, rfl, by decide, inX12, tyX12_ok, nmX12, rfl, Or.inl (g_6 109 (by decide +kernel) rfl)⟩
theorem foX12_53 : fOK RX12 53 12 16 := ⟨RX12, TX12, 45, tyX12, rfl, by decide, inX12, tyX12_ok, nmX12, rfl, Or.inl (g_6 110 (by decide +kernel) rfl)⟩
theorem foX12_56 : fOK RX12 56 12 17 := ⟨RX12, TX12, 45, tyX12, rfl, by decide, inX12, tyX12_ok, nmX12, rfl, Or.inl (g_6 111 (by decide +kernel) rfl)⟩
theorem foX12_59 : fOK RX12 59 12 18 := ⟨RX12, TX12, 45, tyX12, rfl, by decide, inX12, tyX12_ok, nmX12, rfl, Or.inl (g_6 112 (by decide +kernel) rfl)⟩
theorem foX12_62 : fOK RX12 62 12 19 := ⟨RX12, TX12, 45, tyX12, rfl, by decide, inX12, tyX12_ok, nmX12, rfl, Or.inl (g_6 113 (by decide +kernel) rfl)⟩
theorem foX12_65 : fOK RX12 65 12 21 := ⟨RX12, TX12, 45, tyX12, rfl, by decide, inX12, tyX12_ok, nmX12, rfl, Or.inl (g_6 115 (by decide +kernel) rfl)⟩
theorem foX12_68 : fOK RX12 68 12 22 := ⟨RX12, TX12, 45, tyX12, rfl, by decide, inX12, tyX12_ok, nmX12, rfl, Or.inl (g_6 116 (by decide +kernel) rfl)⟩
theorem foX12_71 : fOK RX12 71 12 23 := ⟨RX12, TX12, 45, tyX12, rfl, by decide, inX12, tyX12_ok, nmX12, rfl, Or.inl (g_6 117 (by decide +kernel) rfl)⟩
theorem foX12_74 : fOK RX12 74 12 24 := ⟨RX12, TX12, 45, tyX12, rfl, by decide, inX12, tyX12_ok, nmX12, rfl, Or.inl (g_6 118 (by decide +kernel) rfl)⟩
theorem foX12_77 : fOK RX12 77 12 25 := ⟨RX12, TX12, 45, tyX12, rfl, by decide, inX12, tyX12_ok, nmX12, rfl, Or.inl (g_6 119 (by decide +kernel) rfl)⟩
theorem foX12_80 : fOK RX12 80 12 26 := ⟨RX12, TX12, 45, tyX12, rfl, by decide, inX12, tyX12_ok, nmX12, rfl, Or.inl (g_6 120 (by decide +kernel) rfl)⟩
theorem foX12_83 : fOK RX12 83 12 27 := ⟨RX12, TX12, 45, tyX12, rfl, by decide, inX12, tyX12_ok, nmX12, rfl, Or.inl (g_6 121 (by decide +kernel) rfl)⟩
theorem foX12_86 : fOK RX12 86 12 29 := ⟨RX12, TX12, 45, tyX12, rfl, by decide, inX12, tyX12_ok, nmX12, rfl, Or.inl (g_6 123 (by decide +kernel) rfl)⟩
theorem foX12_89 : fOK RX12 89 12 30 := ⟨RX12, TX12, 45, tyX12, rfl, by decide, inX12, tyX12_ok, nmX12, rfl, Or.inl (g_6 124 (by decide +kernel) rfl)⟩
theorem foX12_92 : fOK RX12 92 12 31 := ⟨RX12, TX12, 45, tyX12, rfl, by decide, inX12, tyX12_ok, nmX12, rfl, Or.inl (g_6 125 (by decide +kernel) rfl)⟩
theorem foX12_95 : fOK RX12 95 12 32 := ⟨RX12, TX12, 45, tyX12, rfl, by decide, inX12, tyX12_ok, nmX12, rfl, Or.inl (g_6 126 (by decide +kernel) rfl)⟩
theorem foX12_98 : fOK RX12 98 12 40 := ⟨RX12, TX12, 45, tyX12, rfl, by decide, inX12, tyX12_ok, nmX12, rfl, Or.inl (g_6 134 (by decide +kernel) rfl)⟩
theorem foX12_101 : fOK RX12 101 12 41 := ⟨RX12, TX12, 45, tyX12, rfl, by decide, inX12, tyX12_ok, nmX12, rfl, Or.inl (g_6 135 (by decide +kernel) rfl)⟩
theorem foX12_104 : fOK RX12 104 12 42 := ⟨RX12, TX12, 45, tyX12, rfl, by decide, inX12, tyX12_ok, nmX12, rfl, Or.inl (g_6 136 (by decide +kernel) rfl)⟩
theorem foX12_107 : fOK RX12 107 12 43 := ⟨RX12, TX12, 45, tyX12, rfl, by decide, inX12, tyX12_ok, nmX12, rfl, Or.inl (g_6 137 (by decide +kernel) rfl)⟩
theorem foX12_202 : fOK RX12 202 12 28 := ⟨RX12, TX12, 45, tyX12, rfl, by decide, inX12, tyX12_ok, nmX12, rfl, Or.inl (g_6 122 (by decide +kernel) rfl)⟩
theorem foX12_205 : fOK RX12 205 12 8 := ⟨RX12, TX12, 45, tyX12, rfl, by decide, inX12, tyX12_ok, nmX12, rfl, Or.inl (g_6 102 (by decide +kernel) rfl)⟩
theorem foX12_208 : fOK RX12 208 12 10 := ⟨RX12, TX12, 45, tyX12, rfl, by decide, inX12, tyX12_ok, nmX12, rfl, Or.inl (g_6 104 (by decide +kernel) rfl)⟩
theorem foX12_226 : fOK RX12 226 12 12 := ⟨RX12, TX12, 45, tyX12, rfl, by decide, inX12, tyX12_ok, nmX12, rfl, Or.inl (g_6 106 (by decide +kernel) rfl)⟩
theorem foX12_278 : fOK RX12 278 12 20 := ⟨RX12, TX12, 45, tyX12, rfl, by decide, inX12, tyX12_ok, nmX12, rfl, Or.inl (g_6 114 (by decide +kernel) rfl)⟩
theorem foX12_312 : fOK RX12 312 12 33 := ⟨RX12, TX12, 45, tyX12, rfl, by decide, inX12, tyX12_ok, nmX12, rfl, Or.inl (g_6 127 (by decide +kernel) rfl)⟩
theorem foX12_325 : fOK RX12 325 12 36 := ⟨RX12, TX12, 45, tyX12, rfl, by decide, inX12, tyX12_ok, nmX12, rfl, Or.inl (g_6 130 (by decide +kernel) rfl)⟩
theorem foX12_332 : fOK RX12 332 12 34 := ⟨RX12, TX12, 45, tyX12, rfl, by decide, inX12, tyX12_ok, nmX12, rfl, Or.inl (g_6 128 (by decide +kernel) rfl)⟩
theorem foX12_341 : fOK RX12 341 12 35 := ⟨RX12, TX12, 45, tyX12, rfl, by decide, inX12, tyX12_ok, nmX12, rfl, Or.inl (g_6 129 (by decide +kernel) rfl)⟩
theorem foX12_381 : fOK RX12 381 12 38 := ⟨RX12, TX12, 45, tyX12, rfl, by decide, inX12, tyX12_ok, nmX12, rfl, Or.inl (g_6 132 (by decide +kernel) rfl)⟩
theorem foX12_384 : fOK RX12 384 12 37 := ⟨RX12, TX12, 45, tyX12, rfl, by decide, inX12, tyX12_ok, nmX12, rfl, Or.inl (g_6 131 (by decide +kernel) rfl)⟩
theorem foX12_394 : fOK RX12 394 12 39 := ⟨RX12, TX12, 45, tyX12, rfl, by decide, inX12, tyX12_ok, nmX12, rfl, Or.inl (g_6 133 (by decide +kernel) rfl)⟩
theorem foX12_436 : fOK RX12 436 12 44 := ⟨RX12, TX12, 45, tyX12, rfl, by decide, inX12, tyX12_ok, nmX12, rfl, Or.inl (g_6 138 (by decide +kernel) rfl)⟩
theorem foX2_12 : fOK RX2 12 2 0 := ⟨RX2, TX2, 12, tyX2, rfl, by decide, inX2, tyX2_ok, nmX2, rfl, Or.inl (g_1 157 (by decide +kernel) rfl)⟩
theorem foX2_21 : fOK RX2 21 2 1 := ⟨RX2, TX2, 12, tyX2, rfl, by decide, inX2, tyX2_ok, nmX2, rfl, Or.inl (g_1 160 (by decide +kernel) rfl)⟩
theorem foX2_29 : fOK RX2 29 2 2 := ⟨RX2, TX2, 12, tyX2, rfl, by decide, inX2, tyX2_ok, nmX2, rfl, Or.inl (g_1 163 (by decide +kernel) rfl)⟩
theorem foX2_37 : fOK RX2 37 2 3 := ⟨RX2, TX2, 12, tyX2, rfl, by decide, inX2, tyX2_ok, nmX2, rfl, Or.inl (g_1 168 (by decide +kernel) rfl)⟩
theorem foX2_41 : fOK RX2 41 2 4 := ⟨RX2, TX2, 12, tyX2, rfl, by decide, inX2, tyX2_ok, nmX2, rfl, Or.inl (g_1 172 (by decide +kernel) rfl)⟩
theorem foX2_44 : fOK RX2 44 2 5 := ⟨RX2, TX2, 12, tyX2, rfl, by decide, inX2, tyX2_ok, nmX2, rfl, Or.inl (g_1 175 (by decide +kernel) rfl)⟩
theorem foX2_47 : fOK RX2 47 2 6 := ⟨RX2, TX2, 12, tyX2, rfl, by decide, inX2, tyX2_ok, nmX2, rfl, Or.inl (g_1 178 (by decide +kernel) rfl)⟩
theorem foX2_50 : fOK RX2 50 2 7 := ⟨RX2, TX2, 12, tyX2, rfl, by decide, inX2, tyX2_ok, nmX2, rfl, Or.inl (g_1 181 (by decide +kernel) rfl)⟩
theorem foX2_53 : fOK RX2 53 2 8 := ⟨RX2, TX2, 12, tyX2, rfl, by decide, inX2, tyX2_ok, nmX2, rfl, Or.inl (g_1 183 (by decide +kernel) rfl)⟩
theorem foX2_56 : fOK RX2 56 2 9 := ⟨RX2, TX2, 12, tyX2, rfl, by decide, inX2, tyX2_ok, nmX2, rfl, Or.inl (g_1 185 (by decide +kernel) rfl)⟩
theorem foX2_59 : fOK RX2 59 2 10 := ⟨RX2, TX2, 12, tyX2, rfl, by decide, inX2, tyX2_ok, nmX2, rfl, Or.inl (g_1 187 (by decide +kernel) rfl)⟩
theorem foX2_65 : fOK RX2 65 2 11 := ⟨RX2, TX2, 12, tyX2, rfl, by decide, inX2, tyX2_ok, nmX2, rfl, Or.inl (g_1 189 (by decide +kernel) rfl)⟩
theorem foX3_14 : fOK RX3 14 3 1 := ⟨RX3, TX3, 18, tyX3, rfl, by decide, inX3, tyX3_ok, nmX3, rfl, Or.inl (g_2 22 (by decide +kernel) rfl)⟩
theorem foX3_23 : fOK RX3 23 3 2 := ⟨RX3, TX3, 18, tyX3, rfl, by decide, inX3, tyX3_ok, nmX3, rfl, Or.inl (g_2 25 (by decide +kernel) rfl)⟩
theorem foX3_27 : fOK RX3 27 3 3 := ⟨RX3, TX3, 18, tyX3, rfl, by decide, inX3, tyX3_ok, nmX3, rfl, Or.inl (g_2 26 (by decide +kernel) rfl)⟩
theorem foX3_31 : fOK RX3 31 3 4 := ⟨RX3, TX3, 18, tyX3, rfl, by decide, inX3, tyX3_ok, nmX3, rfl, Or.inl (g_2 27 (by decide +kernel) rfl)⟩
theorem foX3_35 : fOK RX3 35 3 5 := ⟨RX3, TX3, 18, tyX3, rfl, by decide, inX3, tyX3_ok, nmX3, rfl, Or.inl (g_2 29 (by decide +kernel) rfl)⟩
theorem foX3_41 : fOK RX3 41 3 6 := ⟨RX3, TX3, 18, tyX3, rfl, by decide, inX3, tyX3_ok, nmX3, rfl, Or.inl (g_2 30 (by decide +kernel) rfl)⟩
theorem foX3_45 : fOK RX3 45 3 7 := ⟨RX3, TX3, 18, tyX3, rfl, by decide, inX3, tyX3_ok, nmX3, rfl, Or.inl (g_2 31 (by decide +kernel) rfl)⟩
theorem foX3_48 : fOK RX3 48 3 8 := ⟨RX3, TX3, 18, tyX3, rfl, by decide, inX3, tyX3_ok, nmX3, rfl, Or.inl (g_2 33 (by decide +kernel) rfl)⟩
theorem foX3_51 : fOK RX3 51 3 9 := ⟨RX3, TX3, 18, tyX3, rfl, by decide, inX3, tyX3_ok, nmX3, rfl, Or.inl (g_2 34 (by decide +kernel) rfl)⟩
theorem foX3_54 : fOK RX3 54 3 10 := ⟨RX3, TX3, 18, tyX3, rfl, by decide, inX3, tyX3_ok, nmX3, rfl, Or.inl (g_2 35 (by decide +kernel) rfl)⟩
theorem foX3_57 : fOK RX3 57 3 11 := ⟨RX3, TX3, 18, tyX3, rfl, by decide, inX3, tyX3_ok, nmX3, rfl, Or.inl (g_2 36 (by decide +kernel) rfl)⟩
theorem foX3_60 : fOK RX3 60 3 12 := ⟨RX3, TX3, 18, tyX3, rfl, by decide, inX3, tyX3_ok, nmX3, rfl, Or.inl (g_2 37 (by decide +kernel) rfl)⟩
theorem foX3_64 : fOK RX3 64 3 13 := ⟨RX3, TX3, 18, tyX3, rfl, by decide, inX3, tyX3_ok, nmX3, rfl, Or.inl (g_2 39 (by decide +kernel) rfl)⟩
theorem foX3_67 : fOK RX3 67 3 14 := ⟨RX3, TX3, 18, tyX3, rfl, by decide, inX3, tyX3_ok, nmX3, rfl, Or.inl (g_2 41 (by decide +kernel) rfl)⟩
theorem foX3_70 : fOK RX3 70 3 15 := ⟨RX3, TX3, 18, tyX3, rfl, by decide, inX3, tyX3_ok, nmX3, rfl, Or.inl (g_2 43 (by decide +kernel) rfl)⟩
theorem foX3_74 : fOK RX3 74 3 16 := ⟨RX3, TX3, 18, tyX3, rfl, by decide, inX3, tyX3_ok, nmX3, rfl, Or.inl (g_2 44 (by decide +kernel) rfl)⟩
theorem foX3_77 : fOK RX3 77 3 17 := ⟨RX3, TX3, 18, tyX3, rfl, by decide, inX3, tyX3_ok, nmX3, rfl, Or.inl (g_2 45 (by decide +kernel) rfl)⟩
theorem foX3_80 : fOK RX3 80 3 0 := ⟨RX3, TX3, 18, tyX3, rfl, by decide, inX3, tyX3_ok, nmX3, rfl, Or.inl (g_2 21 (by decide +kernel) rfl)⟩
theorem foX3_84 : fOK RX3 84 8 3 := ⟨RX8, TX8, 4, tyX8, rfl, by decide, inX8, tyX8_ok, nmX8, rfl, Or.inr ⟨"HullEars", n_1 60 (by decide +kernel) rfl⟩⟩
theorem foX3_87 : fOK RX3 87 2 3 := ⟨RX2, TX2, 12, tyX2, rfl, by decide, inX2, tyX2_ok, nmX2, rfl, Or.inr ⟨"HullEars", n_1 170 (by decide +kernel) rfl⟩⟩
theorem foX3_97 : fOK RX3 97 2 4 := ⟨RX2, TX2, 12, tyX2, rfl, by decide, inX2, tyX2_ok, nmX2, rfl, Or.inr ⟨"HullEars", n_1 173 (by decide +kernel) rfl⟩⟩
theorem foX3_100 : fOK RX3 100 2 1 := ⟨RX2, TX2, 12, tyX2, rfl, by decide, inX2, tyX2_ok, nmX2, rfl, Or.inr ⟨"HullEars", n_1 161 (by decide +kernel) rfl⟩⟩
theorem foX3_104 : fOK RX3 104 2 2 := ⟨RX2, TX2, 12, tyX2, rfl, by decide, inX2, tyX2_ok, nmX2, rfl, Or.inr ⟨"HullEars", n_1 165 (by decide +kernel) rfl⟩⟩
theorem foX3_113 : fOK RX3 113 2 0 := ⟨RX2, TX2, 12, tyX2, rfl, by decide, inX2, tyX2_ok, nmX2, rfl, Or.inr ⟨"HullEars", n_1 159 (by decide +kernel) rfl⟩⟩
theorem foX3_117 : fOK RX3 117 1 4 := ⟨RX1, TX1, 5, tyX1, rfl, by decide, inX1, tyX1_ok, nmX1, rfl, Or.inr ⟨"HullEars", n_1 83 (by decide +kernel) rfl⟩⟩
theorem foX3_137 : fOK RX3 137 2 5 := ⟨RX2, TX2, 12, tyX2, rfl, by decide, inX2, tyX2_ok, nmX2, rfl, Or.inr ⟨"HullEars", n_1 176 (by decide +kernel) rfl⟩⟩
theorem foX3_144 : fOK RX3 144 2 6 := ⟨RX2, TX2, 12, tyX2, rfl, by decide, inX2, tyX2_ok, nmX2, rfl, Or.inr ⟨"HullEars", n_1 179 (by decide +kernel) rfl⟩⟩
theorem foX3_158 : fOK RX3 158 1 2 := ⟨RX1, TX1, 5, tyX1, rfl, by decide, inX1, tyX1_ok, nmX1, rfl, Or.inr ⟨"HullEars", n_1 79 (by decide +kernel) rfl⟩⟩
theorem foX3_161 : fOK RX3 161 1 1 := ⟨RX1, TX1, 5, tyX1, rfl, by decide, inX1, tyX1_ok, nmX1, rfl, Or.inr ⟨"HullEars", n_1 76 (by decide +kernel) rfl⟩⟩
theorem foX3_252 : fOK RX3 252 2 11 := ⟨RX2, TX2, 12, tyX2, rfl, by decide, inX2, tyX2_ok, nmX2, rfl, Or.inr ⟨"HullEars", n_1 191 (by decide +kernel) rfl⟩⟩
theorem foX4_9 : fOK RX4 9 4 1 := ⟨RX4, TX4, 7, tyX4, rfl, by decide, inX4, tyX4_ok, nmX4, rfl, Or.inl (g_2 126 (by decide +kernel) rfl)⟩
theorem foX4_15 : fOK RX4 15 4 2 := ⟨RX4, TX4, 7, tyX4, rfl, by decide, inX4, tyX4_ok, nmX4, rfl, Or.inl (g_2 127 (by decide +kernel) rfl)⟩
theorem foX4_18 : fOK RX4 18 4 3 := ⟨RX4, TX4, 7, tyX4, rfl, by decide, inX4, tyX4_ok, nmX4, rfl, Or.inl (g_2 128 (by decide +kernel) rfl)⟩
theorem foX4_21 : fOK RX4 21 4 4 := ⟨RX4, TX4, 7, tyX4, rfl, by decide, inX4, tyX4_ok, nmX4, rfl, Or.inl (g_2 129 (by decide +kernel) rfl)⟩
theorem foX4_25 : fOK RX4 25 4 5 := ⟨RX4, TX4, 7, tyX4, rfl, by decide, inX4, tyX4_ok, nmX4, rfl, Or.inl (g_2 130 (by decide +kernel) rfl)⟩
theorem foX4_28 : fOK RX4 28 4 6 := ⟨RX4, TX4, 7, tyX4, rfl, by decide, inX4, tyX4_ok, nmX4, rfl, Or.inl (g_2 132 (by decide +kernel) rfl)⟩
theorem foX4_31 : fOK RX4 31 4 0 := ⟨RX4, TX4, 7, tyX4, rfl, by decide, inX4, tyX4_ok, nmX4, rfl, Or.inl (g_2 125 (by decide +kernel) rfl)⟩
theorem foX4_35 : fOK RX4 35 2 3 := ⟨RX2, TX2, 12, tyX2, rfl, by decide, inX2, tyX2_ok, nmX2, rfl, Or.inr ⟨"HullEars", n_1 169 (by decide +kernel) rfl⟩⟩
theorem foX4_41 : fOK RX4 41 8 3 := ⟨RX8, TX8, 4, tyX8, rfl, by decide, inX8, tyX8_ok, nmX8, rfl, Or.inr ⟨"HullEars", n_1 58 (by decide +kernel) rfl⟩⟩
theorem foX4_57 : fOK RX4 57 2 2 := ⟨RX2, TX2, 12, tyX2, rfl, by decide, inX2, tyX2_ok, nmX2, rfl, Or.inr ⟨"HullEars", n_1 164 (by decide +kernel) rfl⟩⟩
theorem foX5_16 : fOK RX5 16 5 0 := ⟨RX5, TX5, 7, tyX5, rfl, by decide, inX5, tyX5_ok, nmX5, rfl, Or.inl (g_1 128 (by decide +kernel) rfl)⟩
theorem foX5_20 : fOK RX5 20 5 1 := ⟨RX5, TX5, 7, tyX5, rfl, by decide, inX5, tyX5_ok, nmX5, rfl, Or.inl (g_1 131 (by decide +kernel) rfl)⟩
theorem foX5_24 : fOK RX5 24 5 2 := ⟨RX5, TX5, 7, tyX5, rfl, by decide, inX5, tyX5_ok, nmX5, rfl, Or.inl (g_1 132 (by decide +kernel) rfl)⟩
theorem foX5_27 : fOK RX5 27 5 3 := ⟨RX5, TX5, 7, tyX5, rfl, by decide, inX5, tyX5_ok, nmX5, rfl, Or.inl (g_1 133 (by decide +kernel) rfl)⟩
theorem foX5_30 : fOK RX5 30 5 4 := ⟨RX5, TX5, 7, tyX5, rfl, by decide, inX5, tyX5_ok, nmX5, rfl, Or.inl (g_1 134 (by decide +kernel) rfl)⟩
theorem foX5_34 : fOK RX5 34 5 5 := ⟨RX5, TX5, 7, tyX5, rfl, by decide, inX5, tyX5_ok, nmX5, rfl, Or.inl (g_1 135 (by decide +kernel) rfl)⟩
theorem foX5_38 : fOK RX5 38 5 6 := ⟨RX5, TX5, 7, tyX5, rfl, by decide, inX5, tyX5_ok, nmX5, rfl, Or.inl (g_1 137 (by decide +kernel) rfl)⟩
theorem foX5_41 : fOK RX5 41 8 3 := ⟨RX8, TX8, 4, tyX8, rfl, by decide, inX8, tyX8_ok, nmX8, rfl, Or.inr ⟨"HullEars", n_1 57 (by decide +kernel) rfl⟩⟩
theorem foX6_12 : fOK RX6 12 6 0 := ⟨RX6, TX6, 7, tyX6, rfl, by decide, inX6, tyX6_ok, nmX6, rfl, Or.inl (g_2 157 (by decide +kernel) rfl)⟩
theorem foX6_18 : fOK RX6 18 6 1 := ⟨RX6, TX6, 7, tyX6, rfl, by decide, inX6, tyX6_ok, nmX6, rfl, Or.inl (g_2 159 (by decide +kernel) rfl)⟩
theorem foX6_22 : fOK RX6 22 6 2 := ⟨RX6, TX6, 7, tyX6, rfl, by decide, inX6, tyX6_ok, nmX6, rfl, Or.inl (g_2 160 (by decide +kernel) rfl)⟩
theorem foX6_26 : fOK RX6 26 6 3 := ⟨RX6, TX6, 7, tyX6, rfl, by decide, inX6, tyX6_ok, nmX6, rfl, Or.inl (g_2 161 (by decide +kernel) rfl)⟩
theorem foX6_29 : fOK RX6 29 6 4 := ⟨RX6, TX6, 7, tyX6, rfl, by decide, inX6, tyX6_ok, nmX6, rfl, Or.inl (g_2 162 (by decide +kernel) rfl)⟩
theorem foX6_32 : fOK RX6 32 6 5 := ⟨RX6, TX6, 7, tyX6, rfl, by decide, inX6, tyX6_ok, nmX6, rfl, Or.inl (g_2 163 (by decide +kernel) rfl)⟩
theorem foX6_35 : fOK RX6 35 6 6 := ⟨RX6, TX6, 7, tyX6, rfl, by decide, inX6, tyX6_ok, nmX6, rfl, Or.inl (g_2 164 (by decide +kernel) rfl)⟩
theorem foX6_61 : fOK RX6 61 5 0 := ⟨RX5, TX5, 7, tyX5, rfl, by decide, inX5, tyX5_ok, nmX5, rfl, Or.inr ⟨"HullEars", n_1 129 (by decide +kernel) rfl⟩⟩
theorem foX6_80 : fOK RX6 80 5 5 := ⟨RX5, TX5, 7, tyX5, rfl, by decide, inX5, tyX5_ok, nmX5, rfl, Or.inr ⟨"HullEars", n_1 136 (by decide +kernel) rfl⟩⟩
theorem foX7_9 : fOK RX7 9 7 0 := ⟨RX7, TX7, 2, tyX7, rfl, by decide, inX7, tyX7_ok, nmX7, rfl, Or.inl (g_1 234 (by decide +kernel) rfl)⟩
theorem foX7_15 : fOK RX7 15 7 1 := ⟨RX7, TX7, 2, tyX7, rfl, by decide, inX7, tyX7_ok, nmX7, rfl, Or.inl (g_1 235 (by decide +kernel) rfl)⟩
theorem foX8_9 : fOK RX8 9 8 3 := ⟨RX8, TX8, 4, tyX8, rfl, by decide, inX8, tyX8_ok, nmX8, rfl, Or.inl (g_1 55 (by decide +kernel) rfl)⟩
theorem foX8_21 : fOK RX8 21 8 0 := ⟨RX8, TX8, 4, tyX8, rfl, by decide, inX8, tyX8_ok, nmX8, rfl, Or.inl (g_1 52 (by decide +kernel) rfl)⟩
theorem foX8_24 : fOK RX8 24 8 1 := ⟨RX8, TX8, 4, tyX8, rfl, by decide, inX8, tyX8_ok, nmX8, rfl, Or.inl (g_1 53 (by decide +kernel) rfl)⟩
theorem foX8_27 : fOK RX8 27 8 2 := ⟨RX8, TX8, 4, tyX8, rfl, by decide, inX8, tyX8_ok, nmX8, rfl, Or.inl (g_1 54 (by decide +kernel) rfl)⟩
theorem foX9_11 : fOK RX9 11 9 2 := ⟨RX9, TX9, 9, tyX9, rfl, by decide, inX9, tyX9_ok, nmX9, rfl, Or.inl (g_2 91 (by decide +kernel) rfl)⟩
theorem foX9_15 : fOK RX9 15 9 3 := ⟨RX9, TX9, 9, tyX9, rfl, by decide, inX9, tyX9_ok, nmX9, rfl, Or.inl (g_2 92 (by decide +kernel) rfl)⟩
theorem foX9_18 : fOK RX9 18 9 4 := ⟨RX9, TX9, 9, tyX9, rfl, by decide, inX9, tyX9_ok, nmX9, rfl, Or.inl (g_2 93 (by decide +kernel) rfl)⟩
theorem foX9_21 : fOK RX9 21 9 5 := ⟨RX9, TX9, 9, tyX9, rfl, by decide, inX9, tyX9_ok, nmX9, rfl, Or.inl (g_2 94 (by decide +kernel) rfl)⟩
theorem foX9_24 : fOK RX9 24 9 6 := ⟨RX9, TX9, 9, tyX9, rfl, by decide, inX9, tyX9_ok, nmX9, rfl, Or.inl (g_2 95 (by decide +kernel) rfl)⟩
theorem foX9_28 : fOK RX9 28 9 7 := ⟨RX9, TX9, 9, tyX9, rfl, by decide, inX9, tyX9_ok, nmX9, rfl, Or.inl (g_2 97 (by decide +kernel) rfl)⟩
theorem foX9_31 : fOK RX9 31 9 8 := ⟨RX9, TX9, 9, tyX9, rfl, by decide, inX9, tyX9_ok, nmX9, rfl, Or.inl (g_2 99 (by decide +kernel) rfl)⟩
theorem foX9_35 : fOK RX9 35 9 0 := ⟨RX9, TX9, 9, tyX9, rfl, by decide, inX9, tyX9_ok, nmX9, rfl, Or.inl (g_2 89 (by decide +kernel) rfl)⟩
theorem foX9_39 : fOK RX9 39 9 1 := ⟨RX9, TX9, 9, tyX9, rfl, by decide, inX9, tyX9_ok, nmX9, rfl, Or.inl (g_2 90 (by decide +kernel) rfl)⟩
theorem foX9_73 : fOK RX9 73 3 1 := ⟨RX3, TX3, 18, tyX3, rfl, by decide, inX3, tyX3_ok, nmX3, rfl, Or.inr ⟨"HullEars", n_2 23 (by decide +kernel) rfl⟩⟩
theorem foX9_77 : fOK RX9 77 8 3 := ⟨RX8, TX8, 4, tyX8, rfl, by decide, inX8, tyX8_ok, nmX8, rfl, Or.inr ⟨"HullEars", n_1 61 (by decide +kernel) rfl⟩⟩
theorem foX9_88 : fOK RX9 88 2 2 := ⟨RX2, TX2, 12, tyX2, rfl, by decide, inX2, tyX2_ok, nmX2, rfl, Or.inr ⟨"HullEars", n_1 167 (by decide +kernel) rfl⟩⟩
theorem foX9_103 : fOK RX9 103 3 7 := ⟨RX3, TX3, 18, tyX3, rfl, by decide, inX3, tyX3_ok, nmX3, rfl, Or.inr ⟨"HullEars", n_2 32 (by decide +kernel) rfl⟩⟩
theorem fwX0_0 : fWr 0 0 .int := ⟨(RX0, TX0, 4), rfl, rfl, by decide +kernel⟩
theorem fwX0_1 : fWr 0 1 .int := ⟨(RX0, TX0, 4), rfl, rfl, by decide +kernel⟩
theorem fwX0_2 : fWr 0 2 .int := ⟨(RX0, TX0, 4), rfl, rfl, by decide +kernel⟩
theorem fwX0_3 : fWr 0 3 .int := ⟨(RX0, TX0, 4), rfl, rfl, by decide +kernel⟩
theorem fwX1_4 : fWr 1 4 .int := ⟨(RX1, TX1, 5), rfl, rfl, by decide +kernel⟩
theorem fwX10_2 : fWr 10 2 .int := ⟨(RX10, TX10, 3), rfl, rfl, by decide +kernel⟩
theorem fwX11_10 : fWr 11 10 .int := ⟨(RX11, TX11, 14), rfl, rfl, by decide +kernel⟩
theorem fwX11_11 : fWr 11 11 .int := ⟨(RX11, TX11, 14), rfl, rfl, by decide +kernel⟩
theorem fwX11_12 : fWr 11 12 .int := ⟨(RX11, TX11, 14), rfl, rfl, by decide +kernel⟩
theorem fwX11_13 : fWr 11 13 .int := ⟨(RX11, TX11, 14), rfl, rfl, by decide +kernel⟩
theorem fwX12_0 : fWr 12 0 .int := ⟨(RX12, TX12, 45), rfl, rfl, by decide +kernel⟩
theorem fwX12_2 : fWr 12 2 .int := ⟨(RX12, TX12, 45), rfl, rfl, by decide +kernel⟩
theorem fwX12_7 : fWr 12 7 .int := ⟨(RX12, TX12, 45), rfl, rfl, by decide +kernel⟩
theorem fwX12_8 : fWr 12 8 .int := ⟨(RX12, TX12, 45), rfl, rfl, by decide +kernel⟩
theorem fwX12_10 : fWr 12 10 .int := ⟨(RX12, TX12, 45), rfl, rfl, by decide +kernel⟩
theorem fwX12_12 : fWr 12 12 .int := ⟨(RX12, TX12, 45), rfl, rfl, by decide +kernel⟩
theorem fwX12_13 : fWr 12 13 .int := ⟨(RX12, TX12, 45), rfl, rfl, by decide +kernel⟩
theorem fwX12_15 : fWr 12 15 .int := ⟨(RX12, TX12, 45), rfl, rfl, by decide +kernel⟩
theorem fwX12_20 : fWr 12 20 .int := ⟨(RX12, TX12, 45), rfl, rfl, by decide +kernel⟩
theorem fwX12_28 : fWr 12 28 .int := ⟨(RX12, TX12, 45), rfl, rfl, by decide +kernel⟩
theorem fwX12_29 : fWr 12 29 .int := ⟨(RX12, TX12, 45), rfl, rfl, by decide +kernel⟩
theorem fwX12_33 : fWr 12 33 .int := ⟨(RX12, TX12, 45), rfl, rfl, by decide +kernel⟩
theorem fwX12_34 : fWr 12 34 .int := ⟨(RX12, TX12, 45), rfl, rfl, by decide +kernel⟩
theorem fwX12_35 : fWr 12 35 .int := ⟨(RX12, TX12, 45), rfl, rfl, by decide +kernel⟩
theorem fwX12_36 : fWr 12 36 .int := ⟨(RX12, TX12, 45), rfl, rfl, by decide +kernel⟩
theorem fwX12_37 : fWr 12 37 .int := ⟨(RX12, TX12, 45), rfl, rfl, by decide +kernel⟩
theorem fwX12_38 : fWr 12 38 .int := ⟨(RX12, TX12, 45), rfl, rfl, by decide +kernel⟩
theorem fwX12_39 : fWr 12 39 .boolean := ⟨(RX12, TX12, 45), rfl, rfl, by decide +kernel⟩
theorem fwX12_44 : fWr 12 44 .long := ⟨(RX12, TX12, 45), rfl, rfl, by decide +kernel⟩
theorem fwX3_12 : fWr 3 12 .int := ⟨(RX3, TX3, 18), rfl, rfl, by decide +kernel⟩
theorem fwX3_13 : fWr 3 13 .int := ⟨(RX3, TX3, 18), rfl, rfl, by decide +kernel⟩
theorem fwX3_14 : fWr 3 14 .int := ⟨(RX3, TX3, 18), rfl, rfl, by decide +kernel⟩
theorem fwX3_15 : fWr 3 15 .boolean := ⟨(RX3, TX3, 18), rfl, rfl, by decide +kernel⟩
theorem fwX3_16 : fWr 3 16 .boolean := ⟨(RX3, TX3, 18), rfl, rfl, by decide +kernel⟩
theorem fwX3_17 : fWr 3 17 .boolean := ⟨(RX3, TX3, 18), rfl, rfl, by decide +kernel⟩
theorem fwX4_4 : fWr 4 4 .int := ⟨(RX4, TX4, 7), rfl, rfl, by decide +kernel⟩
theorem fwX4_5 : fWr 4 5 .int := ⟨(RX4, TX4, 7), rfl, rfl, by decide +kernel⟩
theorem fwX4_6 : fWr 4 6 .int := ⟨(RX4, TX4, 7), rfl, rfl, by decide +kernel⟩
theorem fwX5_5 : fWr 5 5 .int := ⟨(RX5, TX5, 7), rfl, rfl, by decide +kernel⟩
theorem fwX5_6 : fWr 5 6 .int := ⟨(RX5, TX5, 7), rfl, rfl, by decide +kernel⟩
theorem fwX6_1 : fWr 6 1 (.array .int) := ⟨(RX6, TX6, 7), rfl, rfl, by decide +kernel⟩
theorem fwX6_2 : fWr 6 2 .int := ⟨(RX6, TX6, 7), rfl, rfl, by decide +kernel⟩
theorem fwX6_3 : fWr 6 3 .int := ⟨(RX6, TX6, 7), rfl, rfl, by decide +kernel⟩
theorem fwX6_4 : fWr 6 4 .int := ⟨(RX6, TX6, 7), rfl, rfl, by decide +kernel⟩
theorem fwX6_5 : fWr 6 5 .int := ⟨(RX6, TX6, 7), rfl, rfl, by decide +kernel⟩
theorem fwX6_6 : fWr 6 6 .int := ⟨(RX6, TX6, 7), rfl, rfl, by decide +kernel⟩
theorem fwX8_3 : fWr 8 3 .int := ⟨(RX8, TX8, 4), rfl, rfl, by decide +kernel⟩
theorem fwX9_6 : fWr 9 6 .int := ⟨(RX9, TX9, 9), rfl, rfl, by decide +kernel⟩
theorem fwX9_7 : fWr 9 7 .int := ⟨(RX9, TX9, 9), rfl, rfl, by decide +kernel⟩
theorem fwX9_8 : fWr 9 8 .boolean := ⟨(RX9, TX9, 9), rfl, rfl, by decide +kernel⟩
theorem ssX0_24 : sS RX0 24 mX11_between 2 := ⟨moX11_between, show (parseMethodDescriptor yX11_between.desc).map (fun d => d.parameters.length) = some 2 by decide +kernel, show Cond.static yX11_between ∈ gws from g_3 159 (by decide +kernel) rfl, Or.inr ⟨"HullEars", show Cond.methodLinkNest RX0 24 yX11_between "HullEars" ∈ nws from n_3 158 (by decide +kernel) rfl⟩⟩
theorem svX0_30 : sV RX0 30 mX0_mark 4 := ⟨moX0_mark, show (parseMethodDescriptor yX0_mark.desc).map (fun d => d.parameters.length) = some 4 by decide +kernel, show Cond.instanceMethod yX0_mark ∈ gws from g_3 169 (by decide +kernel) rfl, show Cond.selects RX0 yX0_mark yX0_mark ∈ gws from g_0 8 (by decide +kernel) rfl, Or.inl (show Cond.methodLink RX0 30 yX0_mark ∈ gws from g_3 167 (by decide +kernel) rfl)⟩
theorem ssX0_34 : sS RX0 34 mJ9_floorMod_7cf53 2 := ⟨moJ9_floorMod_7cf53, show (parseMethodDescriptor yJ9_floorMod_7cf53.desc).map (fun d => d.parameters.length) = some 2 by decide +kernel, show Cond.static yJ9_floorMod_7cf53 ∈ gws from g_3 162 (by decide +kernel) rfl, Or.inl (show Cond.methodLink RX0 34 yJ9_floorMod_7cf53 ∈ gws from g_3 171 (by decide +kernel) rfl)⟩
theorem ssX0_39 : sS RX0 39 mJ9_max_7cf53 2 := ⟨moJ9_max_7cf53, show (parseMethodDescriptor yJ9_max_7cf53.desc).map (fun d => d.parameters.length) = some 2 by decide +kernel, show Cond.static yJ9_max_7cf53 ∈ gws from g_1 50 (by decide +kernel) rfl, Or.inl (show Cond.methodLink RX0 39 yJ9_max_7cf53 ∈ gws from g_3 172 (by decide +kernel) rfl)⟩
theorem ssX0_42 : sS RX0 42 mJ9_min_7cf53 2 := ⟨moJ9_min_7cf53, show (parseMethodDescriptor yJ9_min_7cf53.desc).map (fun d => d.parameters.length) = some 2 by decide +kernel, show Cond.static yJ9_min_7cf53 ∈ gws from g_3 91 (by decide +kernel) rfl, Or.inl (show Cond.methodLink RX0 42 yJ9_min_7cf53 ∈ gws from g_3 173 (by decide +kernel) rfl)⟩
theorem ssX0_45 : sS RX0 45 mJ9_abs_0f7a4 1 := ⟨moJ9_abs_0f7a4, show (parseMethodDescriptor yJ9_abs_0f7a4.desc).map (fun d => d.parameters.length) = some 1 by decide +kernel, show Cond.static yJ9_abs_0f7a4 ∈ gws from g_3 13 (by decide +kernel) rfl, Or.inl (show Cond.methodLink RX0 45 yJ9_abs_0f7a4 ∈ gws from g_3 174 (by decide +kernel) rfl)⟩
theorem ssX0_49 : sS RX0 49 mX0_border 2 := ⟨moX0_border, show (parseMethodDescriptor yX0_border.desc).map (fun d => d.parameters.length) = some 2 by decide +kernel, show Cond.static yX0_border ∈ gws from g_3 176 (by decide +kernel) rfl, Or.inl (show Cond.methodLink RX0 49 yX0_border ∈ gws from g_3 175 (by decide +kernel) rfl)⟩
theorem ssX0_52 : sS RX0 52 mJ9_floorDiv_7cf53 2 := ⟨moJ9_floorDiv_7cf53, show (parseMethodDescriptor yJ9_floorDiv_7cf53.desc).map (fun d => d.parameters.length) = some 2 by decide +kernel, show Cond.static yJ9_floorDiv_7cf53 ∈ gws from g_3 112 (by decide +kernel) rfl, Or.inl (show Cond.methodLink RX0 52 yJ9_floorDiv_7cf53 ∈ gws from g_3 178 (by decide +kernel) rfl)⟩
theorem ssX0_55 : sS RX0 55 mX0_root 1 := ⟨moX0_root, show (parseMethodDescriptor yX0_root.desc).map (fun d => d.parameters.length) = some 1 by decide +kernel, show Cond.static yX0_root ∈ gws from g_3 184 (by decide +kernel) rfl, Or.inl (show Cond.methodLink RX0 55 yX0_root ∈ gws from g_3 183 (by decide +kernel) rfl)⟩
theorem ssX0_58 : sS RX0 58 mX0_bits 2 := ⟨moX0_bits, show (parseMethodDescriptor yX0_bits.desc).map (fun d => d.parameters.length) = some 2 by decide +kernel, show Cond.static yX0_bits ∈ gws from g_3 191 (by decide +kernel) rfl, Or.inl (show Cond.methodLink RX0 58 yX0_bits ∈ gws from g_3 190 (by decide +kernel) rfl)⟩
theorem svX1_37 : sV RX1 37 mX1_follow 0 := ⟨moX1_follow, show (parseMethodDescriptor yX1_follow.desc).map (fun d => d.parameters.length) = some 0 by decide +kernel, show Cond.instanceMethod yX1_follow ∈ gws from g_3 5 (by decide +kernel) rfl, show Cond.selects RX1 yX1_follow yX1_follow ∈ gws from g_3 6 (by decide +kernel) rfl, Or.inl (show Cond.methodLink RX1 37 yX1_follow ∈ gws from g_3 4 (by decide +kernel) rfl)⟩
theorem svX1_40 : sV RX1 40 mX8_at 2 := ⟨moX8_at, show (parseMethodDescriptor yX8_at.desc).map (fun d => d.parameters.length) = some 2 by decide +kernel, show Cond.instanceMethod yX8_at ∈ gws from g_3 9 (by decide +kernel) rfl, show Cond.selects RX8 yX8_at yX8_at ∈ gws from g_3 10 (by decide +kernel) rfl, Or.inl (show Cond.methodLink RX1 40 yX8_at ∈ gws from g_3 8 (by decide +kernel) rfl)⟩
theorem ssX1_44 : sS RX1 44 mJ9_abs_0f7a4 1 := ⟨moJ9_abs_0f7a4, show (parseMethodDescriptor yJ9_abs_0f7a4.desc).map (fun d => d.parameters.length) = some 1 by decide +kernel, show Cond.static yJ9_abs_0f7a4 ∈ gws from g_3 13 (by decide +kernel) rfl, Or.inl (show Cond.methodLink RX1 44 yJ9_abs_0f7a4 ∈ gws from g_3 12 (by decide +kernel) rfl)⟩
theorem ssX1_50 : sS RX1 50 mJ9_max_7cf53 2 := ⟨moJ9_max_7cf53, show (parseMethodDescriptor yJ9_max_7cf53.desc).map (fun d => d.parameters.length) = some 2 by decide +kernel, show Cond.static yJ9_max_7cf53 ∈ gws from g_1 50 (by decide +kernel) rfl, Or.inl (show Cond.methodLink RX1 50 yJ9_max_7cf53 ∈ gws from g_3 15 (by decide +kernel) rfl)⟩
theorem svX1_53 : sV RX1 53 mX8_copy 1 := ⟨moX8_copy, show (parseMethodDescriptor yX8_copy.desc).map (fun d => d.parameters.length) = some 1 by decide +kernel, show Cond.instanceMethod yX8_copy ∈ gws from g_4 135 (by decide +kernel) rfl, show Cond.selects RX8 yX8_copy yX8_copy ∈ gws from g_4 136 (by decide +kernel) rfl, Or.inl (show Cond.methodLink RX1 53 yX8_copy ∈ gws from g_6 66 (by decide +kernel) rfl)⟩
theorem ssX10_22 : sS RX10 22 mJ7_fill_53178 2 := ⟨moJ7_fill_53178, show (parseMethodDescriptor yJ7_fill_53178.desc).map (fun d => d.parameters.length) = some 2 by decide +kernel, show Cond.static yJ7_fill_53178 ∈ gws from g_1 103 (by decide +kernel) rfl, Or.inl (show Cond.methodLink RX10 22 yJ7_fill_53178 ∈ gws from g_1 102 (by decide +kernel) rfl)⟩
theorem ssX10_28 : sS RX10 28 mJ9_min_7cf53 2 := ⟨moJ9_min_7cf53, show (parseMethodDescriptor yJ9_min_7cf53.desc).map (fun d => d.parameters.length) = some 2 by decide +kernel, show Cond.static yJ9_min_7cf53 ∈ gws from g_3 91 (by decide +kernel) rfl, Or.inl (show Cond.methodLink RX10 28 yJ9_min_7cf53 ∈ gws from g_3 90 (by decide +kernel) rfl)⟩
theorem svX10_34 : sV RX10 34 mX10_findBends 0 := ⟨moX10_findBends, show (parseMethodDescriptor yX10_findBends.desc).map (fun d => d.parameters.length) = some 0 by decide +kernel, show Cond.instanceMethod yX10_findBends ∈ gws from g_3 95 (by decide +kernel) rfl, show Cond.selects RX10 yX10_findBends yX10_findBends ∈ gws from g_0 4 (by decide +kernel) rfl, Or.inl (show Cond.methodLink RX10 34 yX10_findBends ∈ gws from g_3 93 (by decide +kernel) rfl)⟩
theorem ssX10_37 : sS RX10 37 mJ9_max_7cf53 2 := ⟨moJ9_max_7cf53, show (parseMethodDescriptor yJ9_max_7cf53.desc).map (fun d => d.parameters.length) = some 2 by decide +kernel, show Cond.static yJ9_max_7cf53 ∈ gws from g_1 50 (by decide +kernel) rfl, Or.inl (show Cond.methodLink RX10 37 yJ9_max_7cf53 ∈ gws from g_3 97 (by decide +kernel) rfl)⟩
theorem ssX10_40 : sS RX10 40 mJ6_compare_7cf53 2 := ⟨moJ6_compare_7cf53, show (parseMethodDescriptor yJ6_compare_7cf53.desc).map (fun d => d.parameters.length) = some 2 by decide +kernel, show Cond.static yJ6_compare_7cf53 ∈ gws from g_3 99 (by decide +kernel) rfl, Or.inl (show Cond.methodLink RX10 40 yJ6_compare_7cf53 ∈ gws from g_3 98 (by decide +kernel) rfl)⟩
theorem ssX11_79 : sS RX11 79 mX11_ofSea 2 := ⟨moX11_ofSea, show (parseMethodDescriptor yX11_ofSea.desc).map (fun d => d.parameters.length) = some 2 by decide +kernel, show Cond.static yX11_ofSea ∈ gws from g_2 228 (by decide +kernel) rfl, Or.inl (show Cond.methodLink RX11 79 yX11_ofSea ∈ gws from g_2 227 (by decide +kernel) rfl)⟩
theorem ssX11_83 : sS RX11 83 mX11_isIn 3 := ⟨moX11_isIn, show (parseMethodDescriptor yX11_isIn.desc).map (fun d => d.parameters.length) = some 3 by decide +kernel, show Cond.static yX11_isIn ∈ gws from g_2 231 (by decide +kernel) rfl, Or.inl (show Cond.methodLink RX11 83 yX11_isIn ∈ gws from g_2 230 (by decide +kernel) rfl)⟩
theorem svX11_87 : sV RX11 87 mX11_refuse 1 := ⟨moX11_refuse, show (parseMethodDescriptor yX11_refuse.desc).map (fun d => d.parameters.length) = some 1 by decide +kernel, show Cond.instanceMethod yX11_refuse ∈ gws from g_2 235 (by decide +kernel) rfl, show Cond.selects RX11 yX11_refuse yX11_refuse ∈ gws from g_0 0 (by decide +kernel) rfl, Or.inl (show Cond.methodLink RX11 87 yX11_refuse ∈ gws from g_2 233 (by decide +kernel) rfl)⟩
theorem ssX11_91 : sS RX11 91 mX11_isBoat 1 := ⟨moX11_isBoat, show (parseMethodDescriptor yX11_isBoat.desc).map (fun d => d.parameters.length) = some 1 by decide +kernel, show Cond.static yX11_isBoat ∈ gws from g_2 238 (by decide +kernel) rfl, Or.inl (show Cond.methodLink RX11 91 yX11_isBoat ∈ gws from g_2 237 (by decide +kernel) rfl)⟩
theorem svX11_110 : sV RX11 110 mX1_start 3 := ⟨moX1_start, show (parseMethodDescriptor yX1_start.desc).map (fun d => d.parameters.length) = some 3 by decide +kernel, show Cond.instanceMethod yX1_start ∈ gws from g_3 1 (by decide +kernel) rfl, show Cond.selects RX1 yX1_start yX1_start ∈ gws from g_3 2 (by decide +kernel) rfl, Or.inl (show Cond.methodLink RX11 110 yX1_start ∈ gws from g_3 0 (by decide +kernel) rfl)⟩
theorem svX11_114 : sV RX11 114 mX11_changed 1 := ⟨moX11_changed, show (parseMethodDescriptor yX11_changed.desc).map (fun d => d.parameters.length) = some 1 by decide +kernel, show Cond.instanceMethod yX11_changed ∈ gws from g_3 18 (by decide +kernel) rfl, show Cond.selects RX11 yX11_changed yX11_changed ∈ gws from g_0 1 (by decide +kernel) rfl, Or.inl (show Cond.methodLink RX11 114 yX11_changed ∈ gws from g_3 16 (by decide +kernel) rfl)⟩
theorem ssX11_117 : sS RX11 117 mX11_isBell 1 := ⟨moX11_isBell, show (parseMethodDescriptor yX11_isBell.desc).map (fun d => d.parameters.length) = some 1 by decide +kernel, show Cond.static yX11_isBell ∈ gws from g_3 37 (by decide +kernel) rfl, Or.inl (show Cond.methodLink RX11 117 yX11_isBell ∈ gws from g_3 36 (by decide +kernel) rfl)⟩
theorem ssX11_120 : sS RX11 120 mX11_isPace 2 := ⟨moX11_isPace, show (parseMethodDescriptor yX11_isPace.desc).map (fun d => d.parameters.length) = some 2 by decide +kernel, show Cond.static yX11_isPace ∈ gws from g_3 40 (by decide +kernel) rfl, Or.inl (show Cond.methodLink RX11 120 yX11_isPace ∈ gws from g_3 39 (by decide +kernel) rfl)⟩
theorem svX11_123 : sV RX11 123 mX8_at 2 := ⟨moX8_at, show (parseMethodDescriptor yX8_at.desc).map (fun d => d.parameters.length) = some 2 by decide +kernel, show Cond.instanceMethod yX8_at ∈ gws from g_3 9 (by decide +kernel) rfl, show Cond.selects RX8 yX8_at yX8_at ∈ gws from g_3 10 (by decide +kernel) rfl, Or.inl (show Cond.methodLink RX11 123 yX8_at ∈ gws from g_3 42 (by decide +kernel) rfl)⟩
theorem svX11_127 : sV RX11 127 mX8_isFull 0 := ⟨moX8_isFull, show (parseMethodDescriptor yX8_isFull.desc).map (fun d => d.parameters.length) = some 0 by decide +kernel, show Cond.instanceMethod yX8_isFull ∈ gws from g_3 44 (by decide +kernel) rfl, show Cond.selects RX8 yX8_isFull yX8_isFull ∈ gws from g_3 45 (by decide +kernel) rfl, Or.inl (show Cond.methodLink RX11 127 yX8_isFull ∈ gws from g_3 43 (by decide +kernel) rfl)⟩
theorem svX11_131 : sV RX11 131 mX8_add 5 := ⟨moX8_add, show (parseMethodDescriptor yX8_add.desc).map (fun d => d.parameters.length) = some 5 by decide +kernel, show Cond.instanceMethod yX8_add ∈ gws from g_3 48 (by decide +kernel) rfl, show Cond.selects RX8 yX8_add yX8_add ∈ gws from g_3 49 (by decide +kernel) rfl, Or.inl (show Cond.methodLink RX11 131 yX8_add ∈ gws from g_3 47 (by decide +kernel) rfl)⟩
theorem svX11_135 : sV RX11 135 mX1_follow 0 := ⟨moX1_follow, show (parseMethodDescriptor yX1_follow.desc).map (fun d => d.parameters.length) = some 0 by decide +kernel, show Cond.instanceMethod yX1_follow ∈ gws from g_3 5 (by decide +kernel) rfl, show Cond.selects RX1 yX1_follow yX1_follow ∈ gws from g_3 6 (by decide +kernel) rfl, Or.inl (show Cond.methodLink RX11 135 yX1_follow ∈ gws from g_3 56 (by decide +kernel) rfl)⟩
theorem svX11_168 : sV RX11 168 mX10_changeSlow 2 := ⟨moX10_changeSlow, show (parseMethodDescriptor yX10_changeSlow.desc).map (fun d => d.parameters.length) = some 2 by decide +kernel, show Cond.instanceMethod yX10_changeSlow ∈ gws from g_3 79 (by decide +kernel) rfl, show Cond.selects RX10 yX10_changeSlow yX10_changeSlow ∈ gws from g_3 80 (by decide +kernel) rfl, Or.inl (show Cond.methodLink RX11 168 yX10_changeSlow ∈ gws from g_3 78 (by decide +kernel) rfl)⟩
theorem svX11_174 : sV RX11 174 mX10_sendRays 3 := ⟨moX10_sendRays, show (parseMethodDescriptor yX10_sendRays.desc).map (fun d => d.parameters.length) = some 3 by decide +kernel, show Cond.instanceMethod yX10_sendRays ∈ gws from g_3 87 (by decide +kernel) rfl, show Cond.selects RX10 yX10_sendRays yX10_sendRays ∈ gws from g_3 88 (by decide +kernel) rfl, Or.inl (show Cond.methodLink RX11 174 yX10_sendRays ∈ gws from g_3 86 (by decide +kernel) rfl)⟩
theorem ssX11_178 : sS RX11 178 mX10_isNear 2 := ⟨moX10_isNear, show (parseMethodDescriptor yX10_isNear.desc).map (fun d => d.parameters.length) = some 2 by decide +kernel, show Cond.static yX10_isNear ∈ gws from g_3 102 (by decide +kernel) rfl, Or.inl (show Cond.methodLink RX11 178 yX10_isNear ∈ gws from g_3 101 (by decide +kernel) rfl)⟩
theorem ssX11_181 : sS RX11 181 mX11_direction 2 := ⟨moX11_direction, show (parseMethodDescriptor yX11_direction.desc).map (fun d => d.parameters.length) = some 2 by decide +kernel, show Cond.static yX11_direction ∈ gws from g_3 109 (by decide +kernel) rfl, Or.inl (show Cond.methodLink RX11 181 yX11_direction ∈ gws from g_3 108 (by decide +kernel) rfl)⟩
theorem svX11_187 : sV RX11 187 mX11_addChanging 6 := ⟨moX11_addChanging, show (parseMethodDescriptor yX11_addChanging.desc).map (fun d => d.parameters.length) = some 6 by decide +kernel, show Cond.instanceMethod yX11_addChanging ∈ gws from g_3 120 (by decide +kernel) rfl, show Cond.selects RX11 yX11_addChanging yX11_addChanging ∈ gws from g_0 5 (by decide +kernel) rfl, Or.inl (show Cond.methodLink RX11 187 yX11_addChanging ∈ gws from g_3 118 (by decide +kernel) rfl)⟩
theorem svX11_200 : sV RX11 200 mX3_sortOut 0 := ⟨moX3_sortOut, show (parseMethodDescriptor yX3_sortOut.desc).map (fun d => d.parameters.length) = some 0 by decide +kernel, show Cond.instanceMethod yX3_sortOut ∈ gws from g_3 139 (by decide +kernel) rfl, show Cond.selects RX3 yX3_sortOut yX3_sortOut ∈ gws from g_3 140 (by decide +kernel) rfl, Or.inl (show Cond.methodLink RX11 200 yX3_sortOut ∈ gws from g_3 138 (by decide +kernel) rfl)⟩
theorem ssX11_209 : sS RX11 209 mX11_inWatch 3 := ⟨moX11_inWatch, show (parseMethodDescriptor yX11_inWatch.desc).map (fun d => d.parameters.length) = some 3 by decide +kernel, show Cond.static yX11_inWatch ∈ gws from g_3 200 (by decide +kernel) rfl, Or.inl (show Cond.methodLink RX11 209 yX11_inWatch ∈ gws from g_3 199 (by decide +kernel) rfl)⟩
theorem svX11_213 : sV RX11 213 mX11_feedNumber 1 := ⟨moX11_feedNumber, show (parseMethodDescriptor yX11_feedNumber.desc).map (fun d => d.parameters.length) = some 1 by decide +kernel, show Cond.instanceMethod yX11_feedNumber ∈ gws from g_3 208 (by decide +kernel) rfl, show Cond.selects RX11 yX11_feedNumber yX11_feedNumber ∈ gws from g_0 9 (by decide +kernel) rfl, Or.inl (show Cond.methodLink RX11 213 yX11_feedNumber ∈ gws from g_3 206 (by decide +kernel) rfl)⟩
theorem svX11_217 : sV RX11 217 mX11_cameFromTape 3 := ⟨moX11_cameFromTape, show (parseMethodDescriptor yX11_cameFromTape.desc).map (fun d => d.parameters.length) = some 3 by decide +kernel, show Cond.instanceMethod yX11_cameFromTape ∈ gws from g_3 220 (by decide +kernel) rfl, show Cond.selects RX11 yX11_cameFromTape yX11_cameFromTape ∈ gws from g_0 10 (by decide +kernel) rfl, Or.inl (show Cond.methodLink RX11 217 yX11_cameFromTape ∈ gws from g_3 218 (by decide +kernel) rfl)⟩
theorem svX11_220 : sV RX11 220 mX6_read 2 := ⟨moX6_read, show (parseMethodDescriptor yX6_read.desc).map (fun d => d.parameters.length) = some 2 by decide +kernel, show Cond.instanceMethod yX6_read ∈ gws from g_3 231 (by decide +kernel) rfl, show Cond.selects RX6 yX6_read yX6_read ∈ gws from g_3 232 (by decide +kernel) rfl, Or.inl (show Cond.methodLink RX11 220 yX6_read ∈ gws from g_3 230 (by decide +kernel) rfl)⟩
theorem svX11_231 : sV RX11 231 mX5_copy 1 := ⟨moX5_copy, show (parseMethodDescriptor yX5_copy.desc).map (fun d => d.parameters.length) = some 1 by decide +kernel, show Cond.instanceMethod yX5_copy ∈ gws from g_4 131 (by decide +kernel) rfl, show Cond.selects RX5 yX5_copy yX5_copy ∈ gws from g_4 132 (by decide +kernel) rfl, Or.inl (show Cond.methodLink RX11 231 yX5_copy ∈ gws from g_4 130 (by decide +kernel) rfl)⟩
theorem svX11_240 : sV RX11 240 mX11_accept 1 := ⟨moX11_accept, show (parseMethodDescriptor yX11_accept.desc).map (fun d => d.parameters.length) = some 1 by decide +kernel, show Cond.instanceMethod yX11_accept ∈ gws from g_3 30 (by decide +kernel) rfl, show Cond.selects RX11 yX11_accept yX11_accept ∈ gws from g_0 2 (by decide +kernel) rfl, Or.inl (show Cond.methodLink RX11 240 yX11_accept ∈ gws from g_3 28 (by decide +kernel) rfl)⟩
theorem svX11_243 : sV RX11 243 mX3_plot 0 := ⟨moX3_plot, show (parseMethodDescriptor yX3_plot.desc).map (fun d => d.parameters.length) = some 0 by decide +kernel, show Cond.instanceMethod yX3_plot ∈ gws from g_4 151 (by decide +kernel) rfl, show Cond.selects RX3 yX3_plot yX3_plot ∈ gws from g_4 152 (by decide +kernel) rfl, Or.inl (show Cond.methodLink RX11 243 yX3_plot ∈ gws from g_4 150 (by decide +kernel) rfl)⟩
theorem svX11_249 : sV RX11 249 mX3_pick 2 := ⟨moX3_pick, show (parseMethodDescriptor yX3_pick.desc).map (fun d => d.parameters.length) = some 2 by decide +kernel, show Cond.instanceMethod yX3_pick ∈ gws from g_4 210 (by decide +kernel) rfl, show Cond.selects RX3 yX3_pick yX3_pick ∈ gws from g_4 211 (by decide +kernel) rfl, Or.inl (show Cond.methodLink RX11 249 yX3_pick ∈ gws from g_4 209 (by decide +kernel) rfl)⟩
theorem svX11_252 : sV RX11 252 mX3_edge 2 := ⟨moX3_edge, show (parseMethodDescriptor yX3_edge.desc).map (fun d => d.parameters.length) = some 2 by decide +kernel, show Cond.instanceMethod yX3_edge ∈ gws from g_4 218 (by decide +kernel) rfl, show Cond.selects RX3 yX3_edge yX3_edge ∈ gws from g_4 219 (by decide +kernel) rfl, Or.inl (show Cond.methodLink RX11 252 yX3_edge ∈ gws from g_4 217 (by decide +kernel) rfl)⟩
theorem ssX11_255 : sS RX11 255 mX11_isRun 4 := ⟨moX11_isRun, show (parseMethodDescriptor yX11_isRun.desc).map (fun d => d.parameters.length) = some 4 by decide +kernel, show Cond.static yX11_isRun ∈ gws from g_4 234 (by decide +kernel) rfl, Or.inl (show Cond.methodLink RX11 255 yX11_isRun ∈ gws from g_4 233 (by decide +kernel) rfl)⟩
theorem svX11_259 : sV RX11 259 mX9_missesOf 4 := ⟨moX9_missesOf, show (parseMethodDescriptor yX9_missesOf.desc).map (fun d => d.parameters.length) = some 4 by decide +kernel, show Cond.instanceMethod yX9_missesOf ∈ gws from g_4 237 (by decide +kernel) rfl, show Cond.selects RX9 yX9_missesOf yX9_missesOf ∈ gws from g_4 238 (by decide +kernel) rfl, Or.inl (show Cond.methodLink RX11 259 yX9_missesOf ∈ gws from g_4 236 (by decide +kernel) rfl)⟩
theorem svX11_263 : sV RX11 263 mX3_inSquare 4 := ⟨moX3_inSquare, show (parseMethodDescriptor yX3_inSquare.desc).map (fun d => d.parameters.length) = some 4 by decide +kernel, show Cond.instanceMethod yX3_inSquare ∈ gws from g_5 27 (by decide +kernel) rfl, show Cond.selects RX3 yX3_inSquare yX3_inSquare ∈ gws from g_5 28 (by decide +kernel) rfl, Or.inl (show Cond.methodLink RX11 263 yX3_inSquare ∈ gws from g_5 26 (by decide +kernel) rfl)⟩
theorem svX11_266 : sV RX11 266 mX9_reckon 0 := ⟨moX9_reckon, show (parseMethodDescriptor yX9_reckon.desc).map (fun d => d.parameters.length) = some 0 by decide +kernel, show Cond.instanceMethod yX9_reckon ∈ gws from g_5 36 (by decide +kernel) rfl, show Cond.selects RX9 yX9_reckon yX9_reckon ∈ gws from g_5 37 (by decide +kernel) rfl, Or.inl (show Cond.methodLink RX11 266 yX9_reckon ∈ gws from g_5 35 (by decide +kernel) rfl)⟩
theorem svX11_272 : sV RX11 272 mX9_below 1 := ⟨moX9_below, show (parseMethodDescriptor yX9_below.desc).map (fun d => d.parameters.length) = some 1 by decide +kernel, show Cond.instanceMethod yX9_below ∈ gws from g_5 53 (by decide +kernel) rfl, show Cond.selects RX9 yX9_below yX9_below ∈ gws from g_5 54 (by decide +kernel) rfl, Or.inl (show Cond.methodLink RX11 272 yX9_below ∈ gws from g_5 52 (by decide +kernel) rfl)⟩
theorem svX11_281 : sV RX11 281 mX11_addTo 6 := ⟨moX11_addTo, show (parseMethodDescriptor yX11_addTo.desc).map (fun d => d.parameters.length) = some 6 by decide +kernel, show Cond.instanceMethod yX11_addTo ∈ gws from g_5 62 (by decide +kernel) rfl, show Cond.selects RX11 yX11_addTo yX11_addTo ∈ gws from g_0 34 (by decide +kernel) rfl, Or.inl (show Cond.methodLink RX11 281 yX11_addTo ∈ gws from g_5 60 (by decide +kernel) rfl)⟩
theorem ssX11_287 : sS RX11 287 mX11_isAhead 2 := ⟨moX11_isAhead, show (parseMethodDescriptor yX11_isAhead.desc).map (fun d => d.parameters.length) = some 2 by decide +kernel, show Cond.static yX11_isAhead ∈ gws from g_5 77 (by decide +kernel) rfl, Or.inl (show Cond.methodLink RX11 287 yX11_isAhead ∈ gws from g_5 76 (by decide +kernel) rfl)⟩
theorem svX11_290 : sV RX11 290 mX11_offerEast 3 := ⟨moX11_offerEast, show (parseMethodDescriptor yX11_offerEast.desc).map (fun d => d.parameters.length) = some 3 by decide +kernel, show Cond.instanceMethod yX11_offerEast ∈ gws from g_5 81 (by decide +kernel) rfl, show Cond.selects RX11 yX11_offerEast yX11_offerEast ∈ gws from g_0 35 (by decide +kernel) rfl, Or.inl (show Cond.methodLink RX11 290 yX11_offerEast ∈ gws from g_5 79 (by decide +kernel) rfl)⟩
theorem svX11_294 : sV RX11 294 mX11_offerNorth 3 := ⟨moX11_offerNorth, show (parseMethodDescriptor yX11_offerNorth.desc).map (fun d => d.parameters.length) = some 3 by decide +kernel, show Cond.instanceMethod yX11_offerNorth ∈ gws from g_5 85 (by decide +kernel) rfl, show Cond.selects RX11 yX11_offerNorth yX11_offerNorth ∈ gws from g_0 36 (by decide +kernel) rfl, Or.inl (show Cond.methodLink RX11 294 yX11_offerNorth ∈ gws from g_5 83 (by decide +kernel) rfl)⟩
theorem svX11_297 : sV RX11 297 mX3_largestGroup 3 := ⟨moX3_largestGroup, show (parseMethodDescriptor yX3_largestGroup.desc).map (fun d => d.parameters.length) = some 3 by decide +kernel, show Cond.instanceMethod yX3_largestGroup ∈ gws from g_5 88 (by decide +kernel) rfl, show Cond.selects RX3 yX3_largestGroup yX3_largestGroup ∈ gws from g_5 89 (by decide +kernel) rfl, Or.inl (show Cond.methodLink RX11 297 yX3_largestGroup ∈ gws from g_5 87 (by decide +kernel) rfl)⟩
theorem svX11_300 : sV RX11 300 mX11_bestOffer 3 := ⟨moX11_bestOffer, show (parseMethodDescriptor yX11_bestOffer.desc).map (fun d => d.parameters.length) = some 3 by decide +kernel, show Cond.instanceMethod yX11_bestOffer ∈ gws from g_5 102 (by decide +kernel) rfl, show Cond.selects RX11 yX11_bestOffer yX11_bestOffer ∈ gws from g_0 38 (by decide +kernel) rfl, Or.inl (show Cond.methodLink RX11 300 yX11_bestOffer ∈ gws from g_5 100 (by decide +kernel) rfl)⟩
theorem svX11_303 : sV RX11 303 mX11_offerSpeed 1 := ⟨moX11_offerSpeed, show (parseMethodDescriptor yX11_offerSpeed.desc).map (fun d => d.parameters.length) = some 1 by decide +kernel, show Cond.instanceMethod yX11_offerSpeed ∈ gws from g_5 106 (by decide +kernel) rfl, show Cond.selects RX11 yX11_offerSpeed yX11_offerSpeed ∈ gws from g_0 39 (by decide +kernel) rfl, Or.inl (show Cond.methodLink RX11 303 yX11_offerSpeed ∈ gws from g_5 104 (by decide +kernel) rfl)⟩
theorem svX11_306 : sV RX11 306 mX3_hearers 5 := ⟨moX3_hearers, show (parseMethodDescriptor yX3_hearers.desc).map (fun d => d.parameters.length) = some 5 by decide +kernel, show Cond.instanceMethod yX3_hearers ∈ gws from g_5 111 (by decide +kernel) rfl, show Cond.selects RX3 yX3_hearers yX3_hearers ∈ gws from g_5 112 (by decide +kernel) rfl, Or.inl (show Cond.methodLink RX11 306 yX3_hearers ∈ gws from g_5 110 (by decide +kernel) rfl)⟩
theorem svX11_310 : sV RX11 310 mX4_draw 1 := ⟨moX4_draw, show (parseMethodDescriptor yX4_draw.desc).map (fun d => d.parameters.length) = some 1 by decide +kernel, show Cond.instanceMethod yX4_draw ∈ gws from g_5 162 (by decide +kernel) rfl, show Cond.selects RX4 yX4_draw yX4_draw ∈ gws from g_5 163 (by decide +kernel) rfl, Or.inl (show Cond.methodLink RX11 310 yX4_draw ∈ gws from g_5 161 (by decide +kernel) rfl)⟩
theorem svX11_319 : sV RX11 319 mX4_firstNext 1 := ⟨moX4_firstNext, show (parseMethodDescriptor yX4_firstNext.desc).map (fun d => d.parameters.length) = some 1 by decide +kernel, show Cond.instanceMethod yX4_firstNext ∈ gws from g_5 185 (by decide +kernel) rfl, show Cond.selects RX4 yX4_firstNext yX4_firstNext ∈ gws from g_5 186 (by decide +kernel) rfl, Or.inl (show Cond.methodLink RX11 319 yX4_firstNext ∈ gws from g_5 184 (by decide +kernel) rfl)⟩
theorem svX11_322 : sV RX11 322 mX4_certainty 2 := ⟨moX4_certainty, show (parseMethodDescriptor yX4_certainty.desc).map (fun d => d.parameters.length) = some 2 by decide +kernel, show Cond.instanceMethod yX4_certainty ∈ gws from g_5 198 (by decide +kernel) rfl, show Cond.selects RX4 yX4_certainty yX4_certainty ∈ gws from g_5 199 (by decide +kernel) rfl, Or.inl (show Cond.methodLink RX11 322 yX4_certainty ∈ gws from g_5 197 (by decide +kernel) rfl)⟩
theorem svX11_325 : sV RX11 325 mX3_freshHeard 3 := ⟨moX3_freshHeard, show (parseMethodDescriptor yX3_freshHeard.desc).map (fun d => d.parameters.length) = some 3 by decide +kernel, show Cond.instanceMethod yX3_freshHeard ∈ gws from g_5 206 (by decide +kernel) rfl, show Cond.selects RX3 yX3_freshHeard yX3_freshHeard ∈ gws from g_5 207 (by decide +kernel) rfl, Or.inl (show Cond.methodLink RX11 325 yX3_freshHeard ∈ gws from g_5 205 (by decide +kernel) rfl)⟩
theorem svX11_328 : sV RX11 328 mX3_crossings 3 := ⟨moX3_crossings, show (parseMethodDescriptor yX3_crossings.desc).map (fun d => d.parameters.length) = some 3 by decide +kernel, show Cond.instanceMethod yX3_crossings ∈ gws from g_5 210 (by decide +kernel) rfl, show Cond.selects RX3 yX3_crossings yX3_crossings ∈ gws from g_5 211 (by decide +kernel) rfl, Or.inl (show Cond.methodLink RX11 328 yX3_crossings ∈ gws from g_5 209 (by decide +kernel) rfl)⟩
theorem svX11_331 : sV RX11 331 mX3_crossAll 1 := ⟨moX3_crossAll, show (parseMethodDescriptor yX3_crossAll.desc).map (fun d => d.parameters.length) = some 1 by decide +kernel, show Cond.instanceMethod yX3_crossAll ∈ gws from g_5 218 (by decide +kernel) rfl, show Cond.selects RX3 yX3_crossAll yX3_crossAll ∈ gws from g_5 219 (by decide +kernel) rfl, Or.inl (show Cond.methodLink RX11 331 yX3_crossAll ∈ gws from g_5 217 (by decide +kernel) rfl)⟩
theorem svX11_334 (d : Nat) : sV RX11 334 (mX3_ways d) 3 := ⟨moX3_ways d, show (parseMethodDescriptor yX3_ways.desc).map (fun d => d.parameters.length) = some 3 by decide +kernel, show Cond.instanceMethod yX3_ways ∈ gws from g_5 225 (by decide +kernel) rfl, show Cond.selects RX3 yX3_ways yX3_ways ∈ gws from g_0 48 (by decide +kernel) rfl, Or.inr ⟨"HullEars", show Cond.methodLinkNest RX11 334 yX3_ways "HullEars" ∈ nws from n_5 223 (by decide +kernel) rfl⟩⟩
theorem svX11_337 : sV RX11 337 mX3_keepPair 2 := ⟨moX3_keepPair, show (parseMethodDescriptor yX3_keepPair.desc).map (fun d => d.parameters.length) = some 2 by decide +kernel, show Cond.instanceMethod yX3_keepPair ∈ gws from g_5 233 (by decide +kernel) rfl, show Cond.selects RX3 yX3_keepPair yX3_keepPair ∈ gws from g_5 234 (by decide +kernel) rfl, Or.inl (show Cond.methodLink RX11 337 yX3_keepPair ∈ gws from g_5 232 (by decide +kernel) rfl)⟩
theorem svX11_344 : sV RX11 344 mX11_screwFits 2 := ⟨moX11_screwFits, show (parseMethodDescriptor yX11_screwFits.desc).map (fun d => d.parameters.length) = some 2 by decide +kernel, show Cond.instanceMethod yX11_screwFits ∈ gws from g_6 6 (by decide +kernel) rfl, show Cond.selects RX11 yX11_screwFits yX11_screwFits ∈ gws from g_0 49 (by decide +kernel) rfl, Or.inl (show Cond.methodLink RX11 344 yX11_screwFits ∈ gws from g_6 4 (by decide +kernel) rfl)⟩
theorem svX11_351 : sV RX11 351 mX5_pose 4 := ⟨moX5_pose, show (parseMethodDescriptor yX5_pose.desc).map (fun d => d.parameters.length) = some 4 by decide +kernel, show Cond.instanceMethod yX5_pose ∈ gws from g_5 115 (by decide +kernel) rfl, show Cond.selects RX5 yX5_pose yX5_pose ∈ gws from g_5 116 (by decide +kernel) rfl, Or.inl (show Cond.methodLink RX11 351 yX5_pose ∈ gws from g_6 20 (by decide +kernel) rfl)⟩
theorem svX11_355 : sV RX11 355 mX5_answer 2 := ⟨moX5_answer, show (parseMethodDescriptor yX5_answer.desc).map (fun d => d.parameters.length) = some 2 by decide +kernel, show Cond.instanceMethod yX5_answer ∈ gws from g_5 123 (by decide +kernel) rfl, show Cond.selects RX5 yX5_answer yX5_answer ∈ gws from g_5 124 (by decide +kernel) rfl, Or.inl (show Cond.methodLink RX11 355 yX5_answer ∈ gws from g_6 21 (by decide +kernel) rfl)⟩
theorem svX11_363 : sV RX11 363 mX11_spreadLooks 1 := ⟨moX11_spreadLooks, show (parseMethodDescriptor yX11_spreadLooks.desc).map (fun d => d.parameters.length) = some 1 by decide +kernel, show Cond.instanceMethod yX11_spreadLooks ∈ gws from g_6 37 (by decide +kernel) rfl, show Cond.selects RX11 yX11_spreadLooks yX11_spreadLooks ∈ gws from g_0 50 (by decide +kernel) rfl, Or.inl (show Cond.methodLink RX11 363 yX11_spreadLooks ∈ gws from g_6 35 (by decide +kernel) rfl)⟩
theorem ssX11_367 : sS RX11 367 mX11_power 2 := ⟨moX11_power, show (parseMethodDescriptor yX11_power.desc).map (fun d => d.parameters.length) = some 2 by decide +kernel, show Cond.static yX11_power ∈ gws from g_6 45 (by decide +kernel) rfl, Or.inl (show Cond.methodLink RX11 367 yX11_power ∈ gws from g_6 44 (by decide +kernel) rfl)⟩
theorem ssX11_371 : sS RX11 371 mX11_commonDivisor 2 := ⟨moX11_commonDivisor, show (parseMethodDescriptor yX11_commonDivisor.desc).map (fun d => d.parameters.length) = some 2 by decide +kernel, show Cond.static yX11_commonDivisor ∈ gws from g_6 48 (by decide +kernel) rfl, Or.inl (show Cond.methodLink RX11 371 yX11_commonDivisor ∈ gws from g_6 47 (by decide +kernel) rfl)⟩
theorem svX11_375 : sV RX11 375 mX2_copy 1 := ⟨moX2_copy, show (parseMethodDescriptor yX2_copy.desc).map (fun d => d.parameters.length) = some 1 by decide +kernel, show Cond.instanceMethod yX2_copy ∈ gws from g_6 59 (by decide +kernel) rfl, show Cond.selects RX2 yX2_copy yX2_copy ∈ gws from g_6 60 (by decide +kernel) rfl, Or.inl (show Cond.methodLink RX11 375 yX2_copy ∈ gws from g_6 58 (by decide +kernel) rfl)⟩
theorem svX11_381 : sV RX11 381 mX3_forget 0 := ⟨moX3_forget, show (parseMethodDescriptor yX3_forget.desc).map (fun d => d.parameters.length) = some 0 by decide +kernel, show Cond.instanceMethod yX3_forget ∈ gws from g_3 21 (by decide +kernel) rfl, show Cond.selects RX3 yX3_forget yX3_forget ∈ gws from g_3 22 (by decide +kernel) rfl, Or.inl (show Cond.methodLink RX11 381 yX3_forget ∈ gws from g_3 20 (by decide +kernel) rfl)⟩
theorem svX11_384 : sV RX11 384 mX9_forget 0 := ⟨moX9_forget, show (parseMethodDescriptor yX9_forget.desc).map (fun d => d.parameters.length) = some 0 by decide +kernel, show Cond.instanceMethod yX9_forget ∈ gws from g_3 25 (by decide +kernel) rfl, show Cond.selects RX9 yX9_forget yX9_forget ∈ gws from g_3 26 (by decide +kernel) rfl, Or.inl (show Cond.methodLink RX11 384 yX9_forget ∈ gws from g_3 24 (by decide +kernel) rfl)⟩
theorem ssX11_385 : sS RX11 385 mJ9_floorDiv_7cf53 2 := ⟨moJ9_floorDiv_7cf53, show (parseMethodDescriptor yJ9_floorDiv_7cf53.desc).map (fun d => d.parameters.length) = some 2 by decide +kernel, show Cond.static yJ9_floorDiv_7cf53 ∈ gws from g_3 112 (by decide +kernel) rfl, Or.inl (show Cond.methodLink RX11 385 yJ9_floorDiv_7cf53 ∈ gws from g_3 111 (by decide +kernel) rfl)⟩
theorem ssX11_390 : sS RX11 390 mJ9_floorMod_7cf53 2 := ⟨moJ9_floorMod_7cf53, show (parseMethodDescriptor yJ9_floorMod_7cf53.desc).map (fun d => d.parameters.length) = some 2 by decide +kernel, show Cond.static yJ9_floorMod_7cf53 ∈ gws from g_3 162 (by decide +kernel) rfl, Or.inl (show Cond.methodLink RX11 390 yJ9_floorMod_7cf53 ∈ gws from g_3 161 (by decide +kernel) rfl)⟩
theorem ssX11_393 : sS RX11 393 mJ9_min_7cf53 2 := ⟨moJ9_min_7cf53, show (parseMethodDescriptor yJ9_min_7cf53.desc).map (fun d => d.parameters.length) = some 2 by decide +kernel, show Cond.static yJ9_min_7cf53 ∈ gws from g_3 91 (by decide +kernel) rfl, Or.inl (show Cond.methodLink RX11 393 yJ9_min_7cf53 ∈ gws from g_3 164 (by decide +kernel) rfl)⟩
theorem ssX11_396 : sS RX11 396 mJ9_abs_0f7a4 1 := ⟨moJ9_abs_0f7a4, show (parseMethodDescriptor yJ9_abs_0f7a4.desc).map (fun d => d.parameters.length) = some 1 by decide +kernel, show Cond.static yJ9_abs_0f7a4 ∈ gws from g_3 13 (by decide +kernel) rfl, Or.inl (show Cond.methodLink RX11 396 yJ9_abs_0f7a4 ∈ gws from g_5 108 (by decide +kernel) rfl)⟩
theorem ssX11_399 : sS RX11 399 mJ9_max_7cf53 2 := ⟨moJ9_max_7cf53, show (parseMethodDescriptor yJ9_max_7cf53.desc).map (fun d => d.parameters.length) = some 2 by decide +kernel, show Cond.static yJ9_max_7cf53 ∈ gws from g_1 50 (by decide +kernel) rfl, Or.inl (show Cond.methodLink RX11 399 yJ9_max_7cf53 ∈ gws from g_5 109 (by decide +kernel) rfl)⟩
theorem ssX11_402 : sS RX11 402 mX11_beatFits 2 := ⟨moX11_beatFits, show (parseMethodDescriptor yX11_beatFits.desc).map (fun d => d.parameters.length) = some 2 by decide +kernel, show Cond.static yX11_beatFits ∈ gws from g_6 9 (by decide +kernel) rfl, Or.inl (show Cond.methodLink RX11 402 yX11_beatFits ∈ gws from g_6 8 (by decide +kernel) rfl)⟩
theorem ssX11_405 : sS RX11 405 mJ7_fill_53178 2 := ⟨moJ7_fill_53178, show (parseMethodDescriptor yJ7_fill_53178.desc).map (fun d => d.parameters.length) = some 2 by decide +kernel, show Cond.static yJ7_fill_53178 ∈ gws from g_1 103 (by decide +kernel) rfl, Or.inl (show Cond.methodLink RX11 405 yJ7_fill_53178 ∈ gws from g_6 39 (by decide +kernel) rfl)⟩
theorem svX11_411 : sV RX11 411 mX11_gain 2 := ⟨moX11_gain, show (parseMethodDescriptor yX11_gain.desc).map (fun d => d.parameters.length) = some 2 by decide +kernel, show Cond.instanceMethod yX11_gain ∈ gws from g_6 42 (by decide +kernel) rfl, show Cond.selects RX11 yX11_gain yX11_gain ∈ gws from g_0 51 (by decide +kernel) rfl, Or.inl (show Cond.methodLink RX11 411 yX11_gain ∈ gws from g_6 40 (by decide +kernel) rfl)⟩
theorem ssX12_110 : sS RX12 110 mX12_in 3 := ⟨moX12_in, show (parseMethodDescriptor yX12_in.desc).map (fun d => d.parameters.length) = some 3 by decide +kernel, show Cond.static yX12_in ∈ gws from g_6 235 (by decide +kernel) rfl, Or.inl (show Cond.methodLink RX12 110 yX12_in ∈ gws from g_6 234 (by decide +kernel) rfl)⟩
theorem svX12_114 : sV RX12 114 mX12_refuses 1 := ⟨moX12_refuses, show (parseMethodDescriptor yX12_refuses.desc).map (fun d => d.parameters.length) = some 1 by decide +kernel, show Cond.instanceMethod yX12_refuses ∈ gws from g_6 239 (by decide +kernel) rfl, show Cond.selects RX12 yX12_refuses yX12_refuses ∈ gws from g_0 52 (by decide +kernel) rfl, Or.inl (show Cond.methodLink RX12 114 yX12_refuses ∈ gws from g_6 237 (by decide +kernel) rfl)⟩
theorem svX12_118 : sV RX12 118 mX12_good 1 := ⟨moX12_good, show (parseMethodDescriptor yX12_good.desc).map (fun d => d.parameters.length) = some 1 by decide +kernel, show Cond.instanceMethod yX12_good ∈ gws from g_7 3 (by decide +kernel) rfl, show Cond.selects RX12 yX12_good yX12_good ∈ gws from g_0 53 (by decide +kernel) rfl, Or.inl (show Cond.methodLink RX12 118 yX12_good ∈ gws from g_7 1 (by decide +kernel) rfl)⟩
theorem svX12_121 : sV RX12 121 mX12_boatOf 2 := ⟨moX12_boatOf, show (parseMethodDescriptor yX12_boatOf.desc).map (fun d => d.parameters.length) = some 2 by decide +kernel, show Cond.instanceMethod yX12_boatOf ∈ gws from g_7 21 (by decide +kernel) rfl, show Cond.selects RX12 yX12_boatOf yX12_boatOf ∈ gws from g_0 54 (by decide +kernel) rfl, Or.inl (show Cond.methodLink RX12 121 yX12_boatOf ∈ gws from g_7 19 (by decide +kernel) rfl)⟩
theorem ssX12_125 : sS RX12 125 mX12_isSea 1 := ⟨moX12_isSea, show (parseMethodDescriptor yX12_isSea.desc).map (fun d => d.parameters.length) = some 1 by decide +kernel, show Cond.static yX12_isSea ∈ gws from g_7 14 (by decide +kernel) rfl, Or.inl (show Cond.methodLink RX12 125 yX12_isSea ∈ gws from g_7 13 (by decide +kernel) rfl)⟩
theorem ssX12_129 : sS RX12 129 mX12_isBoat 1 := ⟨moX12_isBoat, show (parseMethodDescriptor yX12_isBoat.desc).map (fun d => d.parameters.length) = some 1 by decide +kernel, show Cond.static yX12_isBoat ∈ gws from g_7 17 (by decide +kernel) rfl, Or.inl (show Cond.methodLink RX12 129 yX12_isBoat ∈ gws from g_7 16 (by decide +kernel) rfl)⟩
theorem ssX12_132 : sS RX12 132 mX12_isBell 1 := ⟨moX12_isBell, show (parseMethodDescriptor yX12_isBell.desc).map (fun d => d.parameters.length) = some 1 by decide +kernel, show Cond.static yX12_isBell ∈ gws from g_7 28 (by decide +kernel) rfl, Or.inl (show Cond.methodLink RX12 132 yX12_isBell ∈ gws from g_7 27 (by decide +kernel) rfl)⟩
theorem ssX12_135 : sS RX12 135 mX12_isPace 1 := ⟨moX12_isPace, show (parseMethodDescriptor yX12_isPace.desc).map (fun d => d.parameters.length) = some 1 by decide +kernel, show Cond.static yX12_isPace ∈ gws from g_7 31 (by decide +kernel) rfl, Or.inl (show Cond.methodLink RX12 135 yX12_isPace ∈ gws from g_7 30 (by decide +kernel) rfl)⟩
theorem svX12_138 : sV RX12 138 mX12_legOf 3 := ⟨moX12_legOf, show (parseMethodDescriptor yX12_legOf.desc).map (fun d => d.parameters.length) = some 3 by decide +kernel, show Cond.instanceMethod yX12_legOf ∈ gws from g_7 35 (by decide +kernel) rfl, show Cond.selects RX12 yX12_legOf yX12_legOf ∈ gws from g_0 55 (by decide +kernel) rfl, Or.inl (show Cond.methodLink RX12 138 yX12_legOf ∈ gws from g_7 33 (by decide +kernel) rfl)⟩
theorem ssX12_142 : sS RX12 142 mX12_size 1 := ⟨moX12_size, show (parseMethodDescriptor yX12_size.desc).map (fun d => d.parameters.length) = some 1 by decide +kernel, show Cond.static yX12_size ∈ gws from g_7 46 (by decide +kernel) rfl, Or.inl (show Cond.methodLink RX12 142 yX12_size ∈ gws from g_7 45 (by decide +kernel) rfl)⟩
theorem ssX12_145 : sS RX12 145 mX12_more 2 := ⟨moX12_more, show (parseMethodDescriptor yX12_more.desc).map (fun d => d.parameters.length) = some 2 by decide +kernel, show Cond.static yX12_more ∈ gws from g_7 49 (by decide +kernel) rfl, Or.inl (show Cond.methodLink RX12 145 yX12_more ∈ gws from g_7 48 (by decide +kernel) rfl)⟩
theorem svX12_148 : sV RX12 148 mX12_speedOf 2 := ⟨moX12_speedOf, show (parseMethodDescriptor yX12_speedOf.desc).map (fun d => d.parameters.length) = some 2 by decide +kernel, show Cond.instanceMethod yX12_speedOf ∈ gws from g_7 43 (by decide +kernel) rfl, show Cond.selects RX12 yX12_speedOf yX12_speedOf ∈ gws from g_0 56 (by decide +kernel) rfl, Or.inl (show Cond.methodLink RX12 148 yX12_speedOf ∈ gws from g_7 41 (by decide +kernel) rfl)⟩
theorem svX12_151 : sV RX12 151 mX12_at 3 := ⟨moX12_at, show (parseMethodDescriptor yX12_at.desc).map (fun d => d.parameters.length) = some 3 by decide +kernel, show Cond.instanceMethod yX12_at ∈ gws from g_7 53 (by decide +kernel) rfl, show Cond.selects RX12 yX12_at yX12_at ∈ gws from g_0 57 (by decide +kernel) rfl, Or.inl (show Cond.methodLink RX12 151 yX12_at ∈ gws from g_7 51 (by decide +kernel) rfl)⟩
theorem svX12_154 : sV RX12 154 mX12_term 1 := ⟨moX12_term, show (parseMethodDescriptor yX12_term.desc).map (fun d => d.parameters.length) = some 1 by decide +kernel, show Cond.instanceMethod yX12_term ∈ gws from g_7 61 (by decide +kernel) rfl, show Cond.selects RX12 yX12_term yX12_term ∈ gws from g_0 58 (by decide +kernel) rfl, Or.inl (show Cond.methodLink RX12 154 yX12_term ∈ gws from g_7 59 (by decide +kernel) rfl)⟩
theorem svX12_157 : sV RX12 157 mX12_slowOf 1 := ⟨moX12_slowOf, show (parseMethodDescriptor yX12_slowOf.desc).map (fun d => d.parameters.length) = some 1 by decide +kernel, show Cond.instanceMethod yX12_slowOf ∈ gws from g_7 73 (by decide +kernel) rfl, show Cond.selects RX12 yX12_slowOf yX12_slowOf ∈ gws from g_0 59 (by decide +kernel) rfl, Or.inl (show Cond.methodLink RX12 157 yX12_slowOf ∈ gws from g_7 71 (by decide +kernel) rfl)⟩
theorem svX12_160 : sV RX12 160 mX12_ray 2 := ⟨moX12_ray, show (parseMethodDescriptor yX12_ray.desc).map (fun d => d.parameters.length) = some 2 by decide +kernel, show Cond.instanceMethod yX12_ray ∈ gws from g_7 85 (by decide +kernel) rfl, show Cond.selects RX12 yX12_ray yX12_ray ∈ gws from g_0 61 (by decide +kernel) rfl, Or.inl (show Cond.methodLink RX12 160 yX12_ray ∈ gws from g_7 83 (by decide +kernel) rfl)⟩
theorem svX12_164 : sV RX12 164 mX12_carries 3 := ⟨moX12_carries, show (parseMethodDescriptor yX12_carries.desc).map (fun d => d.parameters.length) = some 3 by decide +kernel, show Cond.instanceMethod yX12_carries ∈ gws from g_7 81 (by decide +kernel) rfl, show Cond.selects RX12 yX12_carries yX12_carries ∈ gws from g_0 60 (by decide +kernel) rfl, Or.inl (show Cond.methodLink RX12 164 yX12_carries ∈ gws from g_7 79 (by decide +kernel) rfl)⟩
theorem ssX12_166 : sS RX12 166 mX12_rose 2 := ⟨moX12_rose, show (parseMethodDescriptor yX12_rose.desc).map (fun d => d.parameters.length) = some 2 by decide +kernel, show Cond.static yX12_rose ∈ gws from g_7 92 (by decide +kernel) rfl, Or.inl (show Cond.methodLink RX12 166 yX12_rose ∈ gws from g_7 91 (by decide +kernel) rfl)⟩
theorem svX12_169 : sV RX12 169 mX12_hearsNew 3 := ⟨moX12_hearsNew, show (parseMethodDescriptor yX12_hearsNew.desc).map (fun d => d.parameters.length) = some 3 by decide +kernel, show Cond.instanceMethod yX12_hearsNew ∈ gws from g_7 100 (by decide +kernel) rfl, show Cond.selects RX12 yX12_hearsNew yX12_hearsNew ∈ gws from g_0 62 (by decide +kernel) rfl, Or.inl (show Cond.methodLink RX12 169 yX12_hearsNew ∈ gws from g_7 98 (by decide +kernel) rfl)⟩
theorem svX12_173 : sV RX12 173 mX12_heardOf 2 := ⟨moX12_heardOf, show (parseMethodDescriptor yX12_heardOf.desc).map (fun d => d.parameters.length) = some 2 by decide +kernel, show Cond.instanceMethod yX12_heardOf ∈ gws from g_7 136 (by decide +kernel) rfl, show Cond.selects RX12 yX12_heardOf yX12_heardOf ∈ gws from g_0 67 (by decide +kernel) rfl, Or.inl (show Cond.methodLink RX12 173 yX12_heardOf ∈ gws from g_7 134 (by decide +kernel) rfl)⟩
theorem ssX12_176 : sS RX12 176 mX12_turned 2 := ⟨moX12_turned, show (parseMethodDescriptor yX12_turned.desc).map (fun d => d.parameters.length) = some 2 by decide +kernel, show Cond.static yX12_turned ∈ gws from g_7 147 (by decide +kernel) rfl, Or.inl (show Cond.methodLink RX12 176 yX12_turned ∈ gws from g_7 146 (by decide +kernel) rfl)⟩
theorem svX12_179 : sV RX12 179 mX12_echoOf 2 := ⟨moX12_echoOf, show (parseMethodDescriptor yX12_echoOf.desc).map (fun d => d.parameters.length) = some 2 by decide +kernel, show Cond.instanceMethod yX12_echoOf ∈ gws from g_7 132 (by decide +kernel) rfl, show Cond.selects RX12 yX12_echoOf yX12_echoOf ∈ gws from g_0 66 (by decide +kernel) rfl, Or.inl (show Cond.methodLink RX12 179 yX12_echoOf ∈ gws from g_7 130 (by decide +kernel) rfl)⟩
theorem svX12_182 : sV RX12 182 mX12_isAsFar 3 := ⟨moX12_isAsFar, show (parseMethodDescriptor yX12_isAsFar.desc).map (fun d => d.parameters.length) = some 3 by decide +kernel, show Cond.instanceMethod yX12_isAsFar ∈ gws from g_7 140 (by decide +kernel) rfl, show Cond.selects RX12 yX12_isAsFar yX12_isAsFar ∈ gws from g_0 68 (by decide +kernel) rfl, Or.inl (show Cond.methodLink RX12 182 yX12_isAsFar ∈ gws from g_7 138 (by decide +kernel) rfl)⟩
theorem svX12_185 : sV RX12 185 mX12_isTowards 3 := ⟨moX12_isTowards, show (parseMethodDescriptor yX12_isTowards.desc).map (fun d => d.parameters.length) = some 3 by decide +kernel, show Cond.instanceMethod yX12_isTowards ∈ gws from g_7 144 (by decide +kernel) rfl, show Cond.selects RX12 yX12_isTowards yX12_isTowards ∈ gws from g_0 69 (by decide +kernel) rfl, Or.inl (show Cond.methodLink RX12 185 yX12_isTowards ∈ gws from g_7 142 (by decide +kernel) rfl)⟩
theorem svX12_188 : sV RX12 188 mX12_explains 4 := ⟨moX12_explains, show (parseMethodDescriptor yX12_explains.desc).map (fun d => d.parameters.length) = some 4 by decide +kernel, show Cond.instanceMethod yX12_explains ∈ gws from g_7 128 (by decide +kernel) rfl, show Cond.selects RX12 yX12_explains yX12_explains ∈ gws from g_0 65 (by decide +kernel) rfl, Or.inl (show Cond.methodLink RX12 188 yX12_explains ∈ gws from g_7 126 (by decide +kernel) rfl)⟩
theorem svX12_192 : sV RX12 192 mX12_isKnown 2 := ⟨moX12_isKnown, show (parseMethodDescriptor yX12_isKnown.desc).map (fun d => d.parameters.length) = some 2 by decide +kernel, show Cond.instanceMethod yX12_isKnown ∈ gws from g_7 124 (by decide +kernel) rfl, show Cond.selects RX12 yX12_isKnown yX12_isKnown ∈ gws from g_0 64 (by decide +kernel) rfl, Or.inl (show Cond.methodLink RX12 192 yX12_isKnown ∈ gws from g_7 122 (by decide +kernel) rfl)⟩
theorem svX12_196 : sV RX12 196 mX12_isKnownHeard 1 := ⟨moX12_isKnownHeard, show (parseMethodDescriptor yX12_isKnownHeard.desc).map (fun d => d.parameters.length) = some 1 by decide +kernel, show Cond.instanceMethod yX12_isKnownHeard ∈ gws from g_7 120 (by decide +kernel) rfl, show Cond.selects RX12 yX12_isKnownHeard yX12_isKnownHeard ∈ gws from g_0 63 (by decide +kernel) rfl, Or.inl (show Cond.methodLink RX12 196 yX12_isKnownHeard ∈ gws from g_7 118 (by decide +kernel) rfl)⟩
theorem svX12_199 : sV RX12 199 mX12_isKnownEcho 1 := ⟨moX12_isKnownEcho, show (parseMethodDescriptor yX12_isKnownEcho.desc).map (fun d => d.parameters.length) = some 1 by decide +kernel, show Cond.instanceMethod yX12_isKnownEcho ∈ gws from g_7 151 (by decide +kernel) rfl, show Cond.selects RX12 yX12_isKnownEcho yX12_isKnownEcho ∈ gws from g_0 70 (by decide +kernel) rfl, Or.inl (show Cond.methodLink RX12 199 yX12_isKnownEcho ∈ gws from g_7 149 (by decide +kernel) rfl)⟩
theorem svX12_211 : sV RX12 211 mX12_laysNew 4 := ⟨moX12_laysNew, show (parseMethodDescriptor yX12_laysNew.desc).map (fun d => d.parameters.length) = some 4 by decide +kernel, show Cond.instanceMethod yX12_laysNew ∈ gws from g_7 175 (by decide +kernel) rfl, show Cond.selects RX12 yX12_laysNew yX12_laysNew ∈ gws from g_0 73 (by decide +kernel) rfl, Or.inl (show Cond.methodLink RX12 211 yX12_laysNew ∈ gws from g_7 173 (by decide +kernel) rfl)⟩
theorem svX12_215 : sV RX12 215 mX12_isFit 4 := ⟨moX12_isFit, show (parseMethodDescriptor yX12_isFit.desc).map (fun d => d.parameters.length) = some 4 by decide +kernel, show Cond.instanceMethod yX12_isFit ∈ gws from g_7 199 (by decide +kernel) rfl, show Cond.selects RX12 yX12_isFit yX12_isFit ∈ gws from g_0 76 (by decide +kernel) rfl, Or.inl (show Cond.methodLink RX12 215 yX12_isFit ∈ gws from g_7 197 (by decide +kernel) rfl)⟩
theorem svX12_219 : sV RX12 219 mX12_missed 7 := ⟨moX12_missed, show (parseMethodDescriptor yX12_missed.desc).map (fun d => d.parameters.length) = some 7 by decide +kernel, show Cond.instanceMethod yX12_missed ∈ gws from g_7 195 (by decide +kernel) rfl, show Cond.selects RX12 yX12_missed yX12_missed ∈ gws from g_0 75 (by decide +kernel) rfl, Or.inl (show Cond.methodLink RX12 219 yX12_missed ∈ gws from g_7 193 (by decide +kernel) rfl)⟩
theorem svX12_223 : sV RX12 223 mX12_laysNews 0 := ⟨moX12_laysNews, show (parseMethodDescriptor yX12_laysNews.desc).map (fun d => d.parameters.length) = some 0 by decide +kernel, show Cond.instanceMethod yX12_laysNews ∈ gws from g_7 171 (by decide +kernel) rfl, show Cond.selects RX12 yX12_laysNews yX12_laysNews ∈ gws from g_0 72 (by decide +kernel) rfl, Or.inl (show Cond.methodLink RX12 223 yX12_laysNews ∈ gws from g_7 169 (by decide +kernel) rfl)⟩
theorem ssX12_229 : sS RX12 229 mX12_eastOf 1 := ⟨moX12_eastOf, show (parseMethodDescriptor yX12_eastOf.desc).map (fun d => d.parameters.length) = some 1 by decide +kernel, show Cond.static yX12_eastOf ∈ gws from g_7 178 (by decide +kernel) rfl, Or.inl (show Cond.methodLink RX12 229 yX12_eastOf ∈ gws from g_7 177 (by decide +kernel) rfl)⟩
theorem ssX12_232 : sS RX12 232 mX12_northOf 1 := ⟨moX12_northOf, show (parseMethodDescriptor yX12_northOf.desc).map (fun d => d.parameters.length) = some 1 by decide +kernel, show Cond.static yX12_northOf ∈ gws from g_7 181 (by decide +kernel) rfl, Or.inl (show Cond.methodLink RX12 232 yX12_northOf ∈ gws from g_7 180 (by decide +kernel) rfl)⟩
theorem ssX12_235 : sS RX12 235 mX12_eastBy 1 := ⟨moX12_eastBy, show (parseMethodDescriptor yX12_eastBy.desc).map (fun d => d.parameters.length) = some 1 by decide +kernel, show Cond.static yX12_eastBy ∈ gws from g_7 184 (by decide +kernel) rfl, Or.inl (show Cond.methodLink RX12 235 yX12_eastBy ∈ gws from g_7 183 (by decide +kernel) rfl)⟩
theorem ssX12_238 : sS RX12 238 mX12_northBy 1 := ⟨moX12_northBy, show (parseMethodDescriptor yX12_northBy.desc).map (fun d => d.parameters.length) = some 1 by decide +kernel, show Cond.static yX12_northBy ∈ gws from g_7 187 (by decide +kernel) rfl, Or.inl (show Cond.methodLink RX12 238 yX12_northBy ∈ gws from g_7 186 (by decide +kernel) rfl)⟩
theorem svX12_241 : sV RX12 241 mX12_isRun 4 := ⟨moX12_isRun, show (parseMethodDescriptor yX12_isRun.desc).map (fun d => d.parameters.length) = some 4 by decide +kernel, show Cond.instanceMethod yX12_isRun ∈ gws from g_7 191 (by decide +kernel) rfl, show Cond.selects RX12 yX12_isRun yX12_isRun ∈ gws from g_0 74 (by decide +kernel) rfl, Or.inl (show Cond.methodLink RX12 241 yX12_isRun ∈ gws from g_7 189 (by decide +kernel) rfl)⟩
theorem svX12_244 : sV RX12 244 mX12_fits 0 := ⟨moX12_fits, show (parseMethodDescriptor yX12_fits.desc).map (fun d => d.parameters.length) = some 0 by decide +kernel, show Cond.instanceMethod yX12_fits ∈ gws from g_7 167 (by decide +kernel) rfl, show Cond.selects RX12 yX12_fits yX12_fits ∈ gws from g_0 71 (by decide +kernel) rfl, Or.inl (show Cond.methodLink RX12 244 yX12_fits ∈ gws from g_7 165 (by decide +kernel) rfl)⟩
theorem svX12_247 : sV RX12 247 mX12_missedBest 4 := ⟨moX12_missedBest, show (parseMethodDescriptor yX12_missedBest.desc).map (fun d => d.parameters.length) = some 4 by decide +kernel, show Cond.instanceMethod yX12_missedBest ∈ gws from g_7 215 (by decide +kernel) rfl, show Cond.selects RX12 yX12_missedBest yX12_missedBest ∈ gws from g_0 77 (by decide +kernel) rfl, Or.inl (show Cond.methodLink RX12 247 yX12_missedBest ∈ gws from g_7 213 (by decide +kernel) rfl)⟩
theorem svX12_251 : sV RX12 251 mX12_span 2 := ⟨moX12_span, show (parseMethodDescriptor yX12_span.desc).map (fun d => d.parameters.length) = some 2 by decide +kernel, show Cond.instanceMethod yX12_span ∈ gws from g_7 206 (by decide +kernel) rfl, show Cond.selects RX12 yX12_span yX12_span ∈ gws from g_7 207 (by decide +kernel) rfl, Or.inl (show Cond.methodLink RX12 251 yX12_span ∈ gws from g_7 221 (by decide +kernel) rfl)⟩
theorem svX12_254 : sV RX12 254 mX12_judges 0 := ⟨moX12_judges, show (parseMethodDescriptor yX12_judges.desc).map (fun d => d.parameters.length) = some 0 by decide +kernel, show Cond.instanceMethod yX12_judges ∈ gws from g_7 232 (by decide +kernel) rfl, show Cond.selects RX12 yX12_judges yX12_judges ∈ gws from g_0 78 (by decide +kernel) rfl, Or.inl (show Cond.methodLink RX12 254 yX12_judges ∈ gws from g_7 230 (by decide +kernel) rfl)⟩
theorem svX12_257 : sV RX12 257 mX12_missingLess 1 := ⟨moX12_missingLess, show (parseMethodDescriptor yX12_missingLess.desc).map (fun d => d.parameters.length) = some 1 by decide +kernel, show Cond.instanceMethod yX12_missingLess ∈ gws from g_7 236 (by decide +kernel) rfl, show Cond.selects RX12 yX12_missingLess yX12_missingLess ∈ gws from g_0 79 (by decide +kernel) rfl, Or.inl (show Cond.methodLink RX12 257 yX12_missingLess ∈ gws from g_7 234 (by decide +kernel) rfl)⟩
theorem ssX12_260 : sS RX12 260 mX12_isAhead 2 := ⟨moX12_isAhead, show (parseMethodDescriptor yX12_isAhead.desc).map (fun d => d.parameters.length) = some 2 by decide +kernel, show Cond.static yX12_isAhead ∈ gws from g_8 15 (by decide +kernel) rfl, Or.inl (show Cond.methodLink RX12 260 yX12_isAhead ∈ gws from g_8 14 (by decide +kernel) rfl)⟩
theorem svX12_264 : sV RX12 264 mX12_partsOf 3 := ⟨moX12_partsOf, show (parseMethodDescriptor yX12_partsOf.desc).map (fun d => d.parameters.length) = some 3 by decide +kernel, show Cond.instanceMethod yX12_partsOf ∈ gws from g_8 19 (by decide +kernel) rfl, show Cond.selects RX12 yX12_partsOf yX12_partsOf ∈ gws from g_0 80 (by decide +kernel) rfl, Or.inl (show Cond.methodLink RX12 264 yX12_partsOf ∈ gws from g_8 17 (by decide +kernel) rfl)⟩
theorem svX12_267 : sV RX12 267 mX12_asksBoat 3 := ⟨moX12_asksBoat, show (parseMethodDescriptor yX12_asksBoat.desc).map (fun d => d.parameters.length) = some 3 by decide +kernel, show Cond.instanceMethod yX12_asksBoat ∈ gws from g_8 35 (by decide +kernel) rfl, show Cond.selects RX12 yX12_asksBoat yX12_asksBoat ∈ gws from g_0 82 (by decide +kernel) rfl, Or.inl (show Cond.methodLink RX12 267 yX12_asksBoat ∈ gws from g_8 33 (by decide +kernel) rfl)⟩
theorem svX12_270 : sV RX12 270 mX12_hearsBy 1 := ⟨moX12_hearsBy, show (parseMethodDescriptor yX12_hearsBy.desc).map (fun d => d.parameters.length) = some 1 by decide +kernel, show Cond.instanceMethod yX12_hearsBy ∈ gws from g_8 39 (by decide +kernel) rfl, show Cond.selects RX12 yX12_hearsBy yX12_hearsBy ∈ gws from g_0 83 (by decide +kernel) rfl, Or.inl (show Cond.methodLink RX12 270 yX12_hearsBy ∈ gws from g_8 37 (by decide +kernel) rfl)⟩
theorem svX12_274 : sV RX12 274 mX12_heardByOf 3 := ⟨moX12_heardByOf, show (parseMethodDescriptor yX12_heardByOf.desc).map (fun d => d.parameters.length) = some 3 by decide +kernel, show Cond.instanceMethod yX12_heardByOf ∈ gws from g_8 31 (by decide +kernel) rfl, show Cond.selects RX12 yX12_heardByOf yX12_heardByOf ∈ gws from g_0 81 (by decide +kernel) rfl, Or.inl (show Cond.methodLink RX12 274 yX12_heardByOf ∈ gws from g_8 29 (by decide +kernel) rfl)⟩
theorem svX12_281 (d : Nat) : sV RX12 281 (mX12_gives d) 1 := ⟨moX12_gives d, show (parseMethodDescriptor yX12_gives.desc).map (fun d => d.parameters.length) = some 1 by decide +kernel, show Cond.instanceMethod yX12_gives ∈ gws from g_8 109 (by decide +kernel) rfl, show Cond.selects RX12 yX12_gives yX12_gives ∈ gws from g_0 97 (by decide +kernel) rfl, Or.inl (show Cond.methodLink RX12 281 yX12_gives ∈ gws from g_8 107 (by decide +kernel) rfl)⟩
theorem svX12_284 : sV RX12 284 mX12_mays 3 := ⟨moX12_mays, show (parseMethodDescriptor yX12_mays.desc).map (fun d => d.parameters.length) = some 3 by decide +kernel, show Cond.instanceMethod yX12_mays ∈ gws from g_8 101 (by decide +kernel) rfl, show Cond.selects RX12 yX12_mays yX12_mays ∈ gws from g_0 95 (by decide +kernel) rfl, Or.inl (show Cond.methodLink RX12 284 yX12_mays ∈ gws from g_8 99 (by decide +kernel) rfl)⟩
theorem svX12_287 : sV RX12 287 mX12_joins 0 := ⟨moX12_joins, show (parseMethodDescriptor yX12_joins.desc).map (fun d => d.parameters.length) = some 0 by decide +kernel, show Cond.instanceMethod yX12_joins ∈ gws from g_8 105 (by decide +kernel) rfl, show Cond.selects RX12 yX12_joins yX12_joins ∈ gws from g_0 96 (by decide +kernel) rfl, Or.inl (show Cond.methodLink RX12 287 yX12_joins ∈ gws from g_8 103 (by decide +kernel) rfl)⟩
theorem svX12_291 : sV RX12 291 mX12_fixes 2 := ⟨moX12_fixes, show (parseMethodDescriptor yX12_fixes.desc).map (fun d => d.parameters.length) = some 2 by decide +kernel, show Cond.instanceMethod yX12_fixes ∈ gws from g_8 117 (by decide +kernel) rfl, show Cond.selects RX12 yX12_fixes yX12_fixes ∈ gws from g_0 98 (by decide +kernel) rfl, Or.inl (show Cond.methodLink RX12 291 yX12_fixes ∈ gws from g_8 115 (by decide +kernel) rfl)⟩
theorem svX12_294 : sV RX12 294 mX12_newOf 3 := ⟨moX12_newOf, show (parseMethodDescriptor yX12_newOf.desc).map (fun d => d.parameters.length) = some 3 by decide +kernel, show Cond.instanceMethod yX12_newOf ∈ gws from g_8 133 (by decide +kernel) rfl, show Cond.selects RX12 yX12_newOf yX12_newOf ∈ gws from g_0 99 (by decide +kernel) rfl, Or.inl (show Cond.methodLink RX12 294 yX12_newOf ∈ gws from g_8 131 (by decide +kernel) rfl)⟩
theorem svX12_297 : sV RX12 297 mX12_crosses 3 := ⟨moX12_crosses, show (parseMethodDescriptor yX12_crosses.desc).map (fun d => d.parameters.length) = some 3 by decide +kernel, show Cond.instanceMethod yX12_crosses ∈ gws from g_8 137 (by decide +kernel) rfl, show Cond.selects RX12 yX12_crosses yX12_crosses ∈ gws from g_0 100 (by decide +kernel) rfl, Or.inl (show Cond.methodLink RX12 297 yX12_crosses ∈ gws from g_8 135 (by decide +kernel) rfl)⟩
theorem svX12_300 : sV RX12 300 mX12_newsOf 2 := ⟨moX12_newsOf, show (parseMethodDescriptor yX12_newsOf.desc).map (fun d => d.parameters.length) = some 2 by decide +kernel, show Cond.instanceMethod yX12_newsOf ∈ gws from g_8 149 (by decide +kernel) rfl, show Cond.selects RX12 yX12_newsOf yX12_newsOf ∈ gws from g_0 102 (by decide +kernel) rfl, Or.inl (show Cond.methodLink RX12 300 yX12_newsOf ∈ gws from g_8 147 (by decide +kernel) rfl)⟩
theorem svX12_303 : sV RX12 303 mX12_pairs 1 := ⟨moX12_pairs, show (parseMethodDescriptor yX12_pairs.desc).map (fun d => d.parameters.length) = some 1 by decide +kernel, show Cond.instanceMethod yX12_pairs ∈ gws from g_8 145 (by decide +kernel) rfl, show Cond.selects RX12 yX12_pairs yX12_pairs ∈ gws from g_0 101 (by decide +kernel) rfl, Or.inl (show Cond.methodLink RX12 303 yX12_pairs ∈ gws from g_8 143 (by decide +kernel) rfl)⟩
theorem svX12_306 : sV RX12 306 mX12_isScrew 2 := ⟨moX12_isScrew, show (parseMethodDescriptor yX12_isScrew.desc).map (fun d => d.parameters.length) = some 2 by decide +kernel, show Cond.instanceMethod yX12_isScrew ∈ gws from g_8 169 (by decide +kernel) rfl, show Cond.selects RX12 yX12_isScrew yX12_isScrew ∈ gws from g_0 104 (by decide +kernel) rfl, Or.inl (show Cond.methodLink RX12 306 yX12_isScrew ∈ gws from g_8 167 (by decide +kernel) rfl)⟩
theorem svX12_309 : sV RX12 309 mX12_screwAt 1 := ⟨moX12_screwAt, show (parseMethodDescriptor yX12_screwAt.desc).map (fun d => d.parameters.length) = some 1 by decide +kernel, show Cond.instanceMethod yX12_screwAt ∈ gws from g_8 165 (by decide +kernel) rfl, show Cond.selects RX12 yX12_screwAt yX12_screwAt ∈ gws from g_0 103 (by decide +kernel) rfl, Or.inl (show Cond.methodLink RX12 309 yX12_screwAt ∈ gws from g_8 163 (by decide +kernel) rfl)⟩
theorem ssX12_315 : sS RX12 315 mX12_isSmall 1 := ⟨moX12_isSmall, show (parseMethodDescriptor yX12_isSmall.desc).map (fun d => d.parameters.length) = some 1 by decide +kernel, show Cond.static yX12_isSmall ∈ gws from g_8 196 (by decide +kernel) rfl, Or.inl (show Cond.methodLink RX12 315 yX12_isSmall ∈ gws from g_8 195 (by decide +kernel) rfl)⟩
theorem ssX12_318 : sS RX12 318 mX12_isDigit 1 := ⟨moX12_isDigit, show (parseMethodDescriptor yX12_isDigit.desc).map (fun d => d.parameters.length) = some 1 by decide +kernel, show Cond.static yX12_isDigit ∈ gws from g_8 199 (by decide +kernel) rfl, Or.inl (show Cond.methodLink RX12 318 yX12_isDigit ∈ gws from g_8 198 (by decide +kernel) rfl)⟩
theorem svX12_321 : sV RX12 321 mX12_wordOf 2 := ⟨moX12_wordOf, show (parseMethodDescriptor yX12_wordOf.desc).map (fun d => d.parameters.length) = some 2 by decide +kernel, show Cond.instanceMethod yX12_wordOf ∈ gws from g_8 203 (by decide +kernel) rfl, show Cond.selects RX12 yX12_wordOf yX12_wordOf ∈ gws from g_0 107 (by decide +kernel) rfl, Or.inl (show Cond.methodLink RX12 321 yX12_wordOf ∈ gws from g_8 201 (by decide +kernel) rfl)⟩
theorem svX12_328 : sV RX12 328 mX12_fine 0 := ⟨moX12_fine, show (parseMethodDescriptor yX12_fine.desc).map (fun d => d.parameters.length) = some 0 by decide +kernel, show Cond.instanceMethod yX12_fine ∈ gws from g_8 212 (by decide +kernel) rfl, show Cond.selects RX12 yX12_fine yX12_fine ∈ gws from g_0 109 (by decide +kernel) rfl, Or.inl (show Cond.methodLink RX12 328 yX12_fine ∈ gws from g_8 210 (by decide +kernel) rfl)⟩
theorem svX12_335 : sV RX12 335 mX12_takes 1 := ⟨moX12_takes, show (parseMethodDescriptor yX12_takes.desc).map (fun d => d.parameters.length) = some 1 by decide +kernel, show Cond.instanceMethod yX12_takes ∈ gws from g_8 236 (by decide +kernel) rfl, show Cond.selects RX12 yX12_takes yX12_takes ∈ gws from g_0 115 (by decide +kernel) rfl, Or.inl (show Cond.methodLink RX12 335 yX12_takes ∈ gws from g_8 234 (by decide +kernel) rfl)⟩
theorem svX12_338 : sV RX12 338 mX12_faults 0 := ⟨moX12_faults, show (parseMethodDescriptor yX12_faults.desc).map (fun d => d.parameters.length) = some 0 by decide +kernel, show Cond.instanceMethod yX12_faults ∈ gws from g_8 216 (by decide +kernel) rfl, show Cond.selects RX12 yX12_faults yX12_faults ∈ gws from g_0 110 (by decide +kernel) rfl, Or.inl (show Cond.methodLink RX12 338 yX12_faults ∈ gws from g_8 214 (by decide +kernel) rfl)⟩
theorem svX12_344 (d : Nat) : sV RX12 344 (mX12_readSum d) 1 := ⟨moX12_readSum d, show (parseMethodDescriptor yX12_readSum.desc).map (fun d => d.parameters.length) = some 1 by decide +kernel, show Cond.instanceMethod yX12_readSum ∈ gws from g_8 220 (by decide +kernel) rfl, show Cond.selects RX12 yX12_readSum yX12_readSum ∈ gws from g_0 111 (by decide +kernel) rfl, Or.inl (show Cond.methodLink RX12 344 yX12_readSum ∈ gws from g_8 218 (by decide +kernel) rfl)⟩
theorem svX12_347 (d : Nat) : sV RX12 347 (mX12_readTest d) 1 := ⟨moX12_readTest d, show (parseMethodDescriptor yX12_readTest.desc).map (fun d => d.parameters.length) = some 1 by decide +kernel, show Cond.instanceMethod yX12_readTest ∈ gws from g_9 4 (by decide +kernel) rfl, show Cond.selects RX12 yX12_readTest yX12_readTest ∈ gws from g_0 117 (by decide +kernel) rfl, Or.inl (show Cond.methodLink RX12 347 yX12_readTest ∈ gws from g_9 2 (by decide +kernel) rfl)⟩
theorem svX12_350 (d : Nat) : sV RX12 350 (mX12_readBoth d) 1 := ⟨moX12_readBoth d, show (parseMethodDescriptor yX12_readBoth.desc).map (fun d => d.parameters.length) = some 1 by decide +kernel, show Cond.instanceMethod yX12_readBoth ∈ gws from g_9 8 (by decide +kernel) rfl, show Cond.selects RX12 yX12_readBoth yX12_readBoth ∈ gws from g_0 118 (by decide +kernel) rfl, Or.inl (show Cond.methodLink RX12 350 yX12_readBoth ∈ gws from g_9 6 (by decide +kernel) rfl)⟩
theorem svX12_353 (d : Nat) : sV RX12 353 (mX12_readPlain d) 1 := ⟨moX12_readPlain d, show (parseMethodDescriptor yX12_readPlain.desc).map (fun d => d.parameters.length) = some 1 by decide +kernel, show Cond.instanceMethod yX12_readPlain ∈ gws from g_9 12 (by decide +kernel) rfl, show Cond.selects RX12 yX12_readPlain yX12_readPlain ∈ gws from g_0 119 (by decide +kernel) rfl, Or.inl (show Cond.methodLink RX12 353 yX12_readPlain ∈ gws from g_9 10 (by decide +kernel) rfl)⟩
theorem ssX12_356 : sS RX12 356 mX12_sign 1 := ⟨moX12_sign, show (parseMethodDescriptor yX12_sign.desc).map (fun d => d.parameters.length) = some 1 by decide +kernel, show Cond.static yX12_sign ∈ gws from g_8 62 (by decide +kernel) rfl, Or.inl (show Cond.methodLink RX12 356 yX12_sign ∈ gws from g_8 61 (by decide +kernel) rfl)⟩
theorem svX12_360 : sV RX12 360 mX12_must 1 := ⟨moX12_must, show (parseMethodDescriptor yX12_must.desc).map (fun d => d.parameters.length) = some 1 by decide +kernel, show Cond.instanceMethod yX12_must ∈ gws from g_8 232 (by decide +kernel) rfl, show Cond.selects RX12 yX12_must yX12_must ∈ gws from g_0 114 (by decide +kernel) rfl, Or.inl (show Cond.methodLink RX12 360 yX12_must ∈ gws from g_8 230 (by decide +kernel) rfl)⟩
theorem svX12_363 (d : Nat) : sV RX12 363 (mX12_readTerm d) 1 := ⟨moX12_readTerm d, show (parseMethodDescriptor yX12_readTerm.desc).map (fun d => d.parameters.length) = some 1 by decide +kernel, show Cond.instanceMethod yX12_readTerm ∈ gws from g_8 224 (by decide +kernel) rfl, show Cond.selects RX12 yX12_readTerm yX12_readTerm ∈ gws from g_0 112 (by decide +kernel) rfl, Or.inl (show Cond.methodLink RX12 363 yX12_readTerm ∈ gws from g_8 222 (by decide +kernel) rfl)⟩
theorem svX12_366 (d : Nat) : sV RX12 366 (mX12_readPart d) 1 := ⟨moX12_readPart d, show (parseMethodDescriptor yX12_readPart.desc).map (fun d => d.parameters.length) = some 1 by decide +kernel, show Cond.instanceMethod yX12_readPart ∈ gws from g_8 228 (by decide +kernel) rfl, show Cond.selects RX12 yX12_readPart yX12_readPart ∈ gws from g_0 113 (by decide +kernel) rfl, Or.inl (show Cond.methodLink RX12 366 yX12_readPart ∈ gws from g_8 226 (by decide +kernel) rfl)⟩
theorem svX12_369 : sV RX12 369 mX12_leaf 0 := ⟨moX12_leaf, show (parseMethodDescriptor yX12_leaf.desc).map (fun d => d.parameters.length) = some 0 by decide +kernel, show Cond.instanceMethod yX12_leaf ∈ gws from g_9 0 (by decide +kernel) rfl, show Cond.selects RX12 yX12_leaf yX12_leaf ∈ gws from g_0 116 (by decide +kernel) rfl, Or.inl (show Cond.methodLink RX12 369 yX12_leaf ∈ gws from g_8 238 (by decide +kernel) rfl)⟩
theorem svX12_372 : sV RX12 372 mX12_splits 1 := ⟨moX12_splits, show (parseMethodDescriptor yX12_splits.desc).map (fun d => d.parameters.length) = some 1 by decide +kernel, show Cond.instanceMethod yX12_splits ∈ gws from g_8 193 (by decide +kernel) rfl, show Cond.selects RX12 yX12_splits yX12_splits ∈ gws from g_0 106 (by decide +kernel) rfl, Or.inl (show Cond.methodLink RX12 372 yX12_splits ∈ gws from g_8 191 (by decide +kernel) rfl)⟩
theorem svX12_375 : sV RX12 375 mX12_readClause 0 := ⟨moX12_readClause, show (parseMethodDescriptor yX12_readClause.desc).map (fun d => d.parameters.length) = some 0 by decide +kernel, show Cond.instanceMethod yX12_readClause ∈ gws from g_8 208 (by decide +kernel) rfl, show Cond.selects RX12 yX12_readClause yX12_readClause ∈ gws from g_0 108 (by decide +kernel) rfl, Or.inl (show Cond.methodLink RX12 375 yX12_readClause ∈ gws from g_8 206 (by decide +kernel) rfl)⟩
theorem svX12_378 : sV RX12 378 mX12_reads 0 := ⟨moX12_reads, show (parseMethodDescriptor yX12_reads.desc).map (fun d => d.parameters.length) = some 0 by decide +kernel, show Cond.instanceMethod yX12_reads ∈ gws from g_8 189 (by decide +kernel) rfl, show Cond.selects RX12 yX12_reads yX12_reads ∈ gws from g_0 105 (by decide +kernel) rfl, Or.inl (show Cond.methodLink RX12 378 yX12_reads ∈ gws from g_8 187 (by decide +kernel) rfl)⟩
theorem svX12_387 : sV RX12 387 mX12_codeAt 1 := ⟨moX12_codeAt, show (parseMethodDescriptor yX12_codeAt.desc).map (fun d => d.parameters.length) = some 1 by decide +kernel, show Cond.instanceMethod yX12_codeAt ∈ gws from g_8 47 (by decide +kernel) rfl, show Cond.selects RX12 yX12_codeAt yX12_codeAt ∈ gws from g_0 85 (by decide +kernel) rfl, Or.inl (show Cond.methodLink RX12 387 yX12_codeAt ∈ gws from g_8 45 (by decide +kernel) rfl)⟩
theorem svX12_398 (d : Nat) : sV RX12 398 (mX12_termOf d) 1 := ⟨moX12_termOf d, show (parseMethodDescriptor yX12_termOf.desc).map (fun d => d.parameters.length) = some 1 by decide +kernel, show Cond.instanceMethod yX12_termOf ∈ gws from g_8 55 (by decide +kernel) rfl, show Cond.selects RX12 yX12_termOf yX12_termOf ∈ gws from g_0 87 (by decide +kernel) rfl, Or.inl (show Cond.methodLink RX12 398 yX12_termOf ∈ gws from g_8 53 (by decide +kernel) rfl)⟩
theorem svX12_402 : sV RX12 402 mX12_bounded 2 := ⟨moX12_bounded, show (parseMethodDescriptor yX12_bounded.desc).map (fun d => d.parameters.length) = some 2 by decide +kernel, show Cond.instanceMethod yX12_bounded ∈ gws from g_8 70 (by decide +kernel) rfl, show Cond.selects RX12 yX12_bounded yX12_bounded ∈ gws from g_0 90 (by decide +kernel) rfl, Or.inl (show Cond.methodLink RX12 402 yX12_bounded ∈ gws from g_8 68 (by decide +kernel) rfl)⟩
theorem svX12_406 (d : Nat) : sV RX12 406 (mX12_partOf d) 1 := ⟨moX12_partOf d, show (parseMethodDescriptor yX12_partOf.desc).map (fun d => d.parameters.length) = some 1 by decide +kernel, show Cond.instanceMethod yX12_partOf ∈ gws from g_8 59 (by decide +kernel) rfl, show Cond.selects RX12 yX12_partOf yX12_partOf ∈ gws from g_0 88 (by decide +kernel) rfl, Or.inl (show Cond.methodLink RX12 406 yX12_partOf ∈ gws from g_8 57 (by decide +kernel) rfl)⟩
theorem svX12_409 : sV RX12 409 mX12_passes 1 := ⟨moX12_passes, show (parseMethodDescriptor yX12_passes.desc).map (fun d => d.parameters.length) = some 1 by decide +kernel, show Cond.instanceMethod yX12_passes ∈ gws from g_8 66 (by decide +kernel) rfl, show Cond.selects RX12 yX12_passes yX12_passes ∈ gws from g_0 89 (by decide +kernel) rfl, Or.inl (show Cond.methodLink RX12 409 yX12_passes ∈ gws from g_8 64 (by decide +kernel) rfl)⟩
theorem svX12_412 (d : Nat) : sV RX12 412 (mX12_sumOf d) 1 := ⟨moX12_sumOf d, show (parseMethodDescriptor yX12_sumOf.desc).map (fun d => d.parameters.length) = some 1 by decide +kernel, show Cond.instanceMethod yX12_sumOf ∈ gws from g_8 51 (by decide +kernel) rfl, show Cond.selects RX12 yX12_sumOf yX12_sumOf ∈ gws from g_0 86 (by decide +kernel) rfl, Or.inl (show Cond.methodLink RX12 412 yX12_sumOf ∈ gws from g_8 49 (by decide +kernel) rfl)⟩
theorem svX12_415 (d : Nat) : sV RX12 415 (mX12_bothOf d) 1 := ⟨moX12_bothOf d, show (parseMethodDescriptor yX12_bothOf.desc).map (fun d => d.parameters.length) = some 1 by decide +kernel, show Cond.instanceMethod yX12_bothOf ∈ gws from g_8 80 (by decide +kernel) rfl, show Cond.selects RX12 yX12_bothOf yX12_bothOf ∈ gws from g_0 92 (by decide +kernel) rfl, Or.inl (show Cond.methodLink RX12 415 yX12_bothOf ∈ gws from g_8 78 (by decide +kernel) rfl)⟩
theorem svX12_419 (d : Nat) : sV RX12 419 (mX12_plainOf d) 1 := ⟨moX12_plainOf d, show (parseMethodDescriptor yX12_plainOf.desc).map (fun d => d.parameters.length) = some 1 by decide +kernel, show Cond.instanceMethod yX12_plainOf ∈ gws from g_8 84 (by decide +kernel) rfl, show Cond.selects RX12 yX12_plainOf yX12_plainOf ∈ gws from g_0 93 (by decide +kernel) rfl, Or.inl (show Cond.methodLink RX12 419 yX12_plainOf ∈ gws from g_8 82 (by decide +kernel) rfl)⟩
theorem svX12_422 (d : Nat) : sV RX12 422 (mX12_positiveOf d) 1 := ⟨moX12_positiveOf d, show (parseMethodDescriptor yX12_positiveOf.desc).map (fun d => d.parameters.length) = some 1 by decide +kernel, show Cond.instanceMethod yX12_positiveOf ∈ gws from g_8 88 (by decide +kernel) rfl, show Cond.selects RX12 yX12_positiveOf yX12_positiveOf ∈ gws from g_0 94 (by decide +kernel) rfl, Or.inl (show Cond.methodLink RX12 422 yX12_positiveOf ∈ gws from g_8 86 (by decide +kernel) rfl)⟩
theorem svX12_425 (d : Nat) : sV RX12 425 (mX12_testOf d) 1 := ⟨moX12_testOf d, show (parseMethodDescriptor yX12_testOf.desc).map (fun d => d.parameters.length) = some 1 by decide +kernel, show Cond.instanceMethod yX12_testOf ∈ gws from g_8 76 (by decide +kernel) rfl, show Cond.selects RX12 yX12_testOf yX12_testOf ∈ gws from g_0 91 (by decide +kernel) rfl, Or.inl (show Cond.methodLink RX12 425 yX12_testOf ∈ gws from g_8 74 (by decide +kernel) rfl)⟩
theorem svX12_429 : sV RX12 429 mX12_tellsOf 2 := ⟨moX12_tellsOf, show (parseMethodDescriptor yX12_tellsOf.desc).map (fun d => d.parameters.length) = some 2 by decide +kernel, show Cond.instanceMethod yX12_tellsOf ∈ gws from g_8 43 (by decide +kernel) rfl, show Cond.selects RX12 yX12_tellsOf yX12_tellsOf ∈ gws from g_0 84 (by decide +kernel) rfl, Or.inl (show Cond.methodLink RX12 429 yX12_tellsOf ∈ gws from g_8 41 (by decide +kernel) rfl)⟩
theorem svX12_441 : sV RX12 441 mX12_chance 0 := ⟨moX12_chance, show (parseMethodDescriptor yX12_chance.desc).map (fun d => d.parameters.length) = some 0 by decide +kernel, show Cond.instanceMethod yX12_chance ∈ gws from g_9 43 (by decide +kernel) rfl, show Cond.selects RX12 yX12_chance yX12_chance ∈ gws from g_0 121 (by decide +kernel) rfl, Or.inl (show Cond.methodLink RX12 441 yX12_chance ∈ gws from g_9 41 (by decide +kernel) rfl)⟩
theorem svX12_445 : sV RX12 445 mX12_searches 1 := ⟨moX12_searches, show (parseMethodDescriptor yX12_searches.desc).map (fun d => d.parameters.length) = some 1 by decide +kernel, show Cond.instanceMethod yX12_searches ∈ gws from g_9 38 (by decide +kernel) rfl, show Cond.selects RX12 yX12_searches yX12_searches ∈ gws from g_0 120 (by decide +kernel) rfl, Or.inl (show Cond.methodLink RX12 445 yX12_searches ∈ gws from g_9 36 (by decide +kernel) rfl)⟩
theorem svX2_75 : sV RX2 75 mX1_copy 1 := ⟨moX1_copy, show (parseMethodDescriptor yX1_copy.desc).map (fun d => d.parameters.length) = some 1 by decide +kernel, show Cond.instanceMethod yX1_copy ∈ gws from g_6 63 (by decide +kernel) rfl, show Cond.selects RX1 yX1_copy yX1_copy ∈ gws from g_6 64 (by decide +kernel) rfl, Or.inl (show Cond.methodLink RX2 75 yX1_copy ∈ gws from g_6 62 (by decide +kernel) rfl)⟩
theorem svX2_79 : sV RX2 79 mX10_copy 1 := ⟨moX10_copy, show (parseMethodDescriptor yX10_copy.desc).map (fun d => d.parameters.length) = some 1 by decide +kernel, show Cond.instanceMethod yX10_copy ∈ gws from g_6 69 (by decide +kernel) rfl, show Cond.selects RX10 yX10_copy yX10_copy ∈ gws from g_6 70 (by decide +kernel) rfl, Or.inl (show Cond.methodLink RX2 79 yX10_copy ∈ gws from g_6 68 (by decide +kernel) rfl)⟩
theorem svX2_82 : sV RX2 82 mX8_copy 1 := ⟨moX8_copy, show (parseMethodDescriptor yX8_copy.desc).map (fun d => d.parameters.length) = some 1 by decide +kernel, show Cond.instanceMethod yX8_copy ∈ gws from g_4 135 (by decide +kernel) rfl, show Cond.selects RX8 yX8_copy yX8_copy ∈ gws from g_4 136 (by decide +kernel) rfl, Or.inl (show Cond.methodLink RX2 82 yX8_copy ∈ gws from g_6 73 (by decide +kernel) rfl)⟩
theorem svX2_85 : sV RX2 85 mX5_copy 1 := ⟨moX5_copy, show (parseMethodDescriptor yX5_copy.desc).map (fun d => d.parameters.length) = some 1 by decide +kernel, show Cond.instanceMethod yX5_copy ∈ gws from g_4 131 (by decide +kernel) rfl, show Cond.selects RX5 yX5_copy yX5_copy ∈ gws from g_4 132 (by decide +kernel) rfl, Or.inl (show Cond.methodLink RX2 85 yX5_copy ∈ gws from g_6 74 (by decide +kernel) rfl)⟩
theorem svX3_93 : sV RX3 93 mX3_sortKind 2 := ⟨moX3_sortKind, show (parseMethodDescriptor yX3_sortKind.desc).map (fun d => d.parameters.length) = some 2 by decide +kernel, show Cond.instanceMethod yX3_sortKind ∈ gws from g_3 144 (by decide +kernel) rfl, show Cond.selects RX3 yX3_sortKind yX3_sortKind ∈ gws from g_0 6 (by decide +kernel) rfl, Or.inl (show Cond.methodLink RX3 93 yX3_sortKind ∈ gws from g_3 142 (by decide +kernel) rfl)⟩
theorem svX3_107 : sV RX3 107 mX10_sendRays 3 := ⟨moX10_sendRays, show (parseMethodDescriptor yX10_sendRays.desc).map (fun d => d.parameters.length) = some 3 by decide +kernel, show Cond.instanceMethod yX10_sendRays ∈ gws from g_3 87 (by decide +kernel) rfl, show Cond.selects RX10 yX10_sendRays yX10_sendRays ∈ gws from g_3 88 (by decide +kernel) rfl, Or.inl (show Cond.methodLink RX3 107 yX10_sendRays ∈ gws from g_4 159 (by decide +kernel) rfl)⟩
theorem ssX3_122 : sS RX3 122 mX10_isNear 2 := ⟨moX10_isNear, show (parseMethodDescriptor yX10_isNear.desc).map (fun d => d.parameters.length) = some 2 by decide +kernel, show Cond.static yX10_isNear ∈ gws from g_3 102 (by decide +kernel) rfl, Or.inl (show Cond.methodLink RX3 122 yX10_isNear ∈ gws from g_4 160 (by decide +kernel) rfl)⟩
theorem svX3_126 : sV RX3 126 mX7_put 2 := ⟨moX7_put, show (parseMethodDescriptor yX7_put.desc).map (fun d => d.parameters.length) = some 2 by decide +kernel, show Cond.instanceMethod yX7_put ∈ gws from g_4 162 (by decide +kernel) rfl, show Cond.selects RX7 yX7_put yX7_put ∈ gws from g_4 163 (by decide +kernel) rfl, Or.inl (show Cond.methodLink RX3 126 yX7_put ∈ gws from g_4 161 (by decide +kernel) rfl)⟩
theorem svX3_130 : sV RX3 130 mX7_settle 0 := ⟨moX7_settle, show (parseMethodDescriptor yX7_settle.desc).map (fun d => d.parameters.length) = some 0 by decide +kernel, show Cond.instanceMethod yX7_settle ∈ gws from g_4 166 (by decide +kernel) rfl, show Cond.selects RX7 yX7_settle yX7_settle ∈ gws from g_4 167 (by decide +kernel) rfl, Or.inl (show Cond.methodLink RX3 130 yX7_settle ∈ gws from g_4 165 (by decide +kernel) rfl)⟩
theorem svX3_133 : sV RX3 133 mX8_at 2 := ⟨moX8_at, show (parseMethodDescriptor yX8_at.desc).map (fun d => d.parameters.length) = some 2 by decide +kernel, show Cond.instanceMethod yX8_at ∈ gws from g_3 9 (by decide +kernel) rfl, show Cond.selects RX8 yX8_at yX8_at ∈ gws from g_3 10 (by decide +kernel) rfl, Or.inl (show Cond.methodLink RX3 133 yX8_at ∈ gws from g_3 146 (by decide +kernel) rfl)⟩
theorem svX3_140 : sV RX3 140 mX3_isAnswered 5 := ⟨moX3_isAnswered, show (parseMethodDescriptor yX3_isAnswered.desc).map (fun d => d.parameters.length) = some 5 by decide +kernel, show Cond.instanceMethod yX3_isAnswered ∈ gws from g_3 149 (by decide +kernel) rfl, show Cond.selects RX3 yX3_isAnswered yX3_isAnswered ∈ gws from g_0 7 (by decide +kernel) rfl, Or.inl (show Cond.methodLink RX3 140 yX3_isAnswered ∈ gws from g_3 147 (by decide +kernel) rfl)⟩
theorem ssX3_147 : sS RX3 147 mX11_isBoat 1 := ⟨moX11_isBoat, show (parseMethodDescriptor yX11_isBoat.desc).map (fun d => d.parameters.length) = some 1 by decide +kernel, show Cond.static yX11_isBoat ∈ gws from g_2 238 (by decide +kernel) rfl, Or.inr ⟨"HullEars", show Cond.methodLinkNest RX3 147 yX11_isBoat "HullEars" ∈ nws from n_3 151 (by decide +kernel) rfl⟩⟩
theorem svX3_151 : sV RX3 151 mX8_add 5 := ⟨moX8_add, show (parseMethodDescriptor yX8_add.desc).map (fun d => d.parameters.length) = some 5 by decide +kernel, show Cond.instanceMethod yX8_add ∈ gws from g_3 48 (by decide +kernel) rfl, show Cond.selects RX8 yX8_add yX8_add ∈ gws from g_3 49 (by decide +kernel) rfl, Or.inl (show Cond.methodLink RX3 151 yX8_add ∈ gws from g_3 194 (by decide +kernel) rfl)⟩
theorem ssX3_155 : sS RX3 155 mX11_isBell 1 := ⟨moX11_isBell, show (parseMethodDescriptor yX11_isBell.desc).map (fun d => d.parameters.length) = some 1 by decide +kernel, show Cond.static yX11_isBell ∈ gws from g_3 37 (by decide +kernel) rfl, Or.inr ⟨"HullEars", show Cond.methodLinkNest RX3 155 yX11_isBell "HullEars" ∈ nws from n_3 152 (by decide +kernel) rfl⟩⟩
theorem ssX3_164 : sS RX3 164 mX11_isIn 3 := ⟨moX11_isIn, show (parseMethodDescriptor yX11_isIn.desc).map (fun d => d.parameters.length) = some 3 by decide +kernel, show Cond.static yX11_isIn ∈ gws from g_2 231 (by decide +kernel) rfl, Or.inr ⟨"HullEars", show Cond.methodLinkNest RX3 164 yX11_isIn "HullEars" ∈ nws from n_3 153 (by decide +kernel) rfl⟩⟩
theorem svX3_168 : sV RX3 168 mX0_arc 3 := ⟨moX0_arc, show (parseMethodDescriptor yX0_arc.desc).map (fun d => d.parameters.length) = some 3 by decide +kernel, show Cond.instanceMethod yX0_arc ∈ gws from g_3 155 (by decide +kernel) rfl, show Cond.selects RX0 yX0_arc yX0_arc ∈ gws from g_3 156 (by decide +kernel) rfl, Or.inl (show Cond.methodLink RX3 168 yX0_arc ∈ gws from g_3 154 (by decide +kernel) rfl)⟩
theorem svX3_172 : sV RX3 172 mX0_circle 3 := ⟨moX0_circle, show (parseMethodDescriptor yX0_circle.desc).map (fun d => d.parameters.length) = some 3 by decide +kernel, show Cond.instanceMethod yX0_circle ∈ gws from g_3 180 (by decide +kernel) rfl, show Cond.selects RX0 yX0_circle yX0_circle ∈ gws from g_3 181 (by decide +kernel) rfl, Or.inl (show Cond.methodLink RX3 172 yX0_circle ∈ gws from g_3 179 (by decide +kernel) rfl)⟩
theorem svX3_175 : sV RX3 175 mX0_column 1 := ⟨moX0_column, show (parseMethodDescriptor yX0_column.desc).map (fun d => d.parameters.length) = some 1 by decide +kernel, show Cond.instanceMethod yX0_column ∈ gws from g_3 187 (by decide +kernel) rfl, show Cond.selects RX0 yX0_column yX0_column ∈ gws from g_3 188 (by decide +kernel) rfl, Or.inl (show Cond.methodLink RX3 175 yX0_column ∈ gws from g_3 186 (by decide +kernel) rfl)⟩
theorem ssX3_179 : sS RX3 179 mX0_bits 2 := ⟨moX0_bits, show (parseMethodDescriptor yX0_bits.desc).map (fun d => d.parameters.length) = some 2 by decide +kernel, show Cond.static yX0_bits ∈ gws from g_3 191 (by decide +kernel) rfl, Or.inl (show Cond.methodLink RX3 179 yX0_bits ∈ gws from g_3 193 (by decide +kernel) rfl)⟩
theorem ssX3_182 : sS RX3 182 mJ7_fill_53178 2 := ⟨moJ7_fill_53178, show (parseMethodDescriptor yJ7_fill_53178.desc).map (fun d => d.parameters.length) = some 2 by decide +kernel, show Cond.static yJ7_fill_53178 ∈ gws from g_1 103 (by decide +kernel) rfl, Or.inl (show Cond.methodLink RX3 182 yJ7_fill_53178 ∈ gws from g_4 170 (by decide +kernel) rfl)⟩
theorem ssX3_188 : sS RX3 188 mX3_eastOf 2 := ⟨moX3_eastOf, show (parseMethodDescriptor yX3_eastOf.desc).map (fun d => d.parameters.length) = some 2 by decide +kernel, show Cond.static yX3_eastOf ∈ gws from g_4 184 (by decide +kernel) rfl, Or.inl (show Cond.methodLink RX3 188 yX3_eastOf ∈ gws from g_4 183 (by decide +kernel) rfl)⟩
theorem ssX3_191 : sS RX3 191 mX3_lowOf 2 := ⟨moX3_lowOf, show (parseMethodDescriptor yX3_lowOf.desc).map (fun d => d.parameters.length) = some 2 by decide +kernel, show Cond.static yX3_lowOf ∈ gws from g_4 187 (by decide +kernel) rfl, Or.inl (show Cond.methodLink RX3 191 yX3_lowOf ∈ gws from g_4 186 (by decide +kernel) rfl)⟩
theorem svX3_194 : sV RX3 194 mX7_column 2 := ⟨moX7_column, show (parseMethodDescriptor yX7_column.desc).map (fun d => d.parameters.length) = some 2 by decide +kernel, show Cond.instanceMethod yX7_column ∈ gws from g_4 190 (by decide +kernel) rfl, show Cond.selects RX7 yX7_column yX7_column ∈ gws from g_4 191 (by decide +kernel) rfl, Or.inl (show Cond.methodLink RX3 194 yX7_column ∈ gws from g_4 189 (by decide +kernel) rfl)⟩
theorem svX3_196 : sV RX3 196 mX3_sortOut 0 := ⟨moX3_sortOut, show (parseMethodDescriptor yX3_sortOut.desc).map (fun d => d.parameters.length) = some 0 by decide +kernel, show Cond.instanceMethod yX3_sortOut ∈ gws from g_3 139 (by decide +kernel) rfl, show Cond.selects RX3 yX3_sortOut yX3_sortOut ∈ gws from g_3 140 (by decide +kernel) rfl, Or.inl (show Cond.methodLink RX3 196 yX3_sortOut ∈ gws from g_4 154 (by decide +kernel) rfl)⟩
theorem svX3_199 : sV RX3 199 mX3_tune 0 := ⟨moX3_tune, show (parseMethodDescriptor yX3_tune.desc).map (fun d => d.parameters.length) = some 0 by decide +kernel, show Cond.instanceMethod yX3_tune ∈ gws from g_4 156 (by decide +kernel) rfl, show Cond.selects RX3 yX3_tune yX3_tune ∈ gws from g_4 157 (by decide +kernel) rfl, Or.inl (show Cond.methodLink RX3 199 yX3_tune ∈ gws from g_4 155 (by decide +kernel) rfl)⟩
theorem svX3_202 : sV RX3 202 mX3_plotSheaf 1 := ⟨moX3_plotSheaf, show (parseMethodDescriptor yX3_plotSheaf.desc).map (fun d => d.parameters.length) = some 1 by decide +kernel, show Cond.instanceMethod yX3_plotSheaf ∈ gws from g_4 173 (by decide +kernel) rfl, show Cond.selects RX3 yX3_plotSheaf yX3_plotSheaf ∈ gws from g_0 26 (by decide +kernel) rfl, Or.inl (show Cond.methodLink RX3 202 yX3_plotSheaf ∈ gws from g_4 171 (by decide +kernel) rfl)⟩
theorem svX3_206 : sV RX3 206 mX3_countFrom 3 := ⟨moX3_countFrom, show (parseMethodDescriptor yX3_countFrom.desc).map (fun d => d.parameters.length) = some 3 by decide +kernel, show Cond.instanceMethod yX3_countFrom ∈ gws from g_4 197 (by decide +kernel) rfl, show Cond.selects RX3 yX3_countFrom yX3_countFrom ∈ gws from g_0 28 (by decide +kernel) rfl, Or.inl (show Cond.methodLink RX3 206 yX3_countFrom ∈ gws from g_4 195 (by decide +kernel) rfl)⟩
theorem svX3_210 : sV RX3 210 mX3_narrow 4 := ⟨moX3_narrow, show (parseMethodDescriptor yX3_narrow.desc).map (fun d => d.parameters.length) = some 4 by decide +kernel, show Cond.instanceMethod yX3_narrow ∈ gws from g_4 177 (by decide +kernel) rfl, show Cond.selects RX3 yX3_narrow yX3_narrow ∈ gws from g_0 27 (by decide +kernel) rfl, Or.inl (show Cond.methodLink RX3 210 yX3_narrow ∈ gws from g_4 175 (by decide +kernel) rfl)⟩
theorem svX3_220 : sV RX3 220 mX3_look 4 := ⟨moX3_look, show (parseMethodDescriptor yX3_look.desc).map (fun d => d.parameters.length) = some 4 by decide +kernel, show Cond.instanceMethod yX3_look ∈ gws from g_4 180 (by decide +kernel) rfl, show Cond.selects RX3 yX3_look yX3_look ∈ gws from g_4 181 (by decide +kernel) rfl, Or.inl (show Cond.methodLink RX3 220 yX3_look ∈ gws from g_4 179 (by decide +kernel) rfl)⟩
theorem ssX3_224 : sS RX3 224 mJ6_bitCount_0f7a4 1 := ⟨moJ6_bitCount_0f7a4, show (parseMethodDescriptor yJ6_bitCount_0f7a4.desc).map (fun d => d.parameters.length) = some 1 by decide +kernel, show Cond.static yJ6_bitCount_0f7a4 ∈ gws from g_4 200 (by decide +kernel) rfl, Or.inl (show Cond.methodLink RX3 224 yJ6_bitCount_0f7a4 ∈ gws from g_4 199 (by decide +kernel) rfl)⟩
theorem ssX3_229 : sS RX3 229 mX3_highestBit 1 := ⟨moX3_highestBit, show (parseMethodDescriptor yX3_highestBit.desc).map (fun d => d.parameters.length) = some 1 by decide +kernel, show Cond.static yX3_highestBit ∈ gws from g_4 222 (by decide +kernel) rfl, Or.inl (show Cond.methodLink RX3 229 yX3_highestBit ∈ gws from g_4 221 (by decide +kernel) rfl)⟩
theorem ssX3_232 : sS RX3 232 mX3_lowestBit 1 := ⟨moX3_lowestBit, show (parseMethodDescriptor yX3_lowestBit.desc).map (fun d => d.parameters.length) = some 1 by decide +kernel, show Cond.static yX3_lowestBit ∈ gws from g_4 225 (by decide +kernel) rfl, Or.inl (show Cond.methodLink RX3 232 yX3_lowestBit ∈ gws from g_4 224 (by decide +kernel) rfl)⟩
theorem ssX3_235 : sS RX3 235 mJ9_max_7cf53 2 := ⟨moJ9_max_7cf53, show (parseMethodDescriptor yJ9_max_7cf53.desc).map (fun d => d.parameters.length) = some 2 by decide +kernel, show Cond.static yJ9_max_7cf53 ∈ gws from g_1 50 (by decide +kernel) rfl, Or.inl (show Cond.methodLink RX3 235 yJ9_max_7cf53 ∈ gws from g_4 227 (by decide +kernel) rfl)⟩
theorem ssX3_240 : sS RX3 240 mJ9_min_7cf53 2 := ⟨moJ9_min_7cf53, show (parseMethodDescriptor yJ9_min_7cf53.desc).map (fun d => d.parameters.length) = some 2 by decide +kernel, show Cond.static yJ9_min_7cf53 ∈ gws from g_3 91 (by decide +kernel) rfl, Or.inl (show Cond.methodLink RX3 240 yJ9_min_7cf53 ∈ gws from g_4 228 (by decide +kernel) rfl)⟩
theorem ssX3_243 : sS RX3 243 mJ9_abs_0f7a4 1 := ⟨moJ9_abs_0f7a4, show (parseMethodDescriptor yJ9_abs_0f7a4.desc).map (fun d => d.parameters.length) = some 1 by decide +kernel, show Cond.static yJ9_abs_0f7a4 ∈ gws from g_3 13 (by decide +kernel) rfl, Or.inl (show Cond.methodLink RX3 243 yJ9_abs_0f7a4 ∈ gws from g_5 30 (by decide +kernel) rfl)⟩
theorem svX3_246 : sV RX3 246 mX3_groupLane 3 := ⟨moX3_groupLane, show (parseMethodDescriptor yX3_groupLane.desc).map (fun d => d.parameters.length) = some 3 by decide +kernel, show Cond.instanceMethod yX3_groupLane ∈ gws from g_5 93 (by decide +kernel) rfl, show Cond.selects RX3 yX3_groupLane yX3_groupLane ∈ gws from g_0 37 (by decide +kernel) rfl, Or.inl (show Cond.methodLink RX3 246 yX3_groupLane ∈ gws from g_5 91 (by decide +kernel) rfl)⟩
theorem ssX3_249 : sS RX3 249 mX11_direction 2 := ⟨moX11_direction, show (parseMethodDescriptor yX11_direction.desc).map (fun d => d.parameters.length) = some 2 by decide +kernel, show Cond.static yX11_direction ∈ gws from g_3 109 (by decide +kernel) rfl, Or.inr ⟨"HullEars", show Cond.methodLinkNest RX3 249 yX11_direction "HullEars" ∈ nws from n_5 95 (by decide +kernel) rfl⟩⟩
theorem svX3_256 : sV RX3 256 mX5_pose 4 := ⟨moX5_pose, show (parseMethodDescriptor yX5_pose.desc).map (fun d => d.parameters.length) = some 4 by decide +kernel, show Cond.instanceMethod yX5_pose ∈ gws from g_5 115 (by decide +kernel) rfl, show Cond.selects RX5 yX5_pose yX5_pose ∈ gws from g_5 116 (by decide +kernel) rfl, Or.inl (show Cond.methodLink RX3 256 yX5_pose ∈ gws from g_5 114 (by decide +kernel) rfl)⟩
theorem svX3_261 : sV RX3 261 mX5_isLoud 1 := ⟨moX5_isLoud, show (parseMethodDescriptor yX5_isLoud.desc).map (fun d => d.parameters.length) = some 1 by decide +kernel, show Cond.instanceMethod yX5_isLoud ∈ gws from g_5 119 (by decide +kernel) rfl, show Cond.selects RX5 yX5_isLoud yX5_isLoud ∈ gws from g_5 120 (by decide +kernel) rfl, Or.inl (show Cond.methodLink RX3 261 yX5_isLoud ∈ gws from g_5 118 (by decide +kernel) rfl)⟩
theorem svX3_264 : sV RX3 264 mX3_freshHeard 3 := ⟨moX3_freshHeard, show (parseMethodDescriptor yX3_freshHeard.desc).map (fun d => d.parameters.length) = some 3 by decide +kernel, show Cond.instanceMethod yX3_freshHeard ∈ gws from g_5 206 (by decide +kernel) rfl, show Cond.selects RX3 yX3_freshHeard yX3_freshHeard ∈ gws from g_5 207 (by decide +kernel) rfl, Or.inl (show Cond.methodLink RX3 264 yX3_freshHeard ∈ gws from g_5 221 (by decide +kernel) rfl)⟩
theorem svX3_267 : sV RX3 267 mX3_crossings 3 := ⟨moX3_crossings, show (parseMethodDescriptor yX3_crossings.desc).map (fun d => d.parameters.length) = some 3 by decide +kernel, show Cond.instanceMethod yX3_crossings ∈ gws from g_5 210 (by decide +kernel) rfl, show Cond.selects RX3 yX3_crossings yX3_crossings ∈ gws from g_5 211 (by decide +kernel) rfl, Or.inl (show Cond.methodLink RX3 267 yX3_crossings ∈ gws from g_5 222 (by decide +kernel) rfl)⟩
theorem svX3_270 (d : Nat) : sV RX3 270 (mX3_ways d) 3 := ⟨moX3_ways d, show (parseMethodDescriptor yX3_ways.desc).map (fun d => d.parameters.length) = some 3 by decide +kernel, show Cond.instanceMethod yX3_ways ∈ gws from g_5 225 (by decide +kernel) rfl, show Cond.selects RX3 yX3_ways yX3_ways ∈ gws from g_0 48 (by decide +kernel) rfl, Or.inl (show Cond.methodLink RX3 270 yX3_ways ∈ gws from g_5 227 (by decide +kernel) rfl)⟩
theorem svX4_46 : sV RX4 46 mX8_at 2 := ⟨moX8_at, show (parseMethodDescriptor yX8_at.desc).map (fun d => d.parameters.length) = some 2 by decide +kernel, show Cond.instanceMethod yX8_at ∈ gws from g_3 9 (by decide +kernel) rfl, show Cond.selects RX8 yX8_at yX8_at ∈ gws from g_3 10 (by decide +kernel) rfl, Or.inl (show Cond.methodLink RX4 46 yX8_at ∈ gws from g_5 165 (by decide +kernel) rfl)⟩
theorem svX4_50 : sV RX4 50 mX4_nextsOf 2 := ⟨moX4_nextsOf, show (parseMethodDescriptor yX4_nextsOf.desc).map (fun d => d.parameters.length) = some 2 by decide +kernel, show Cond.instanceMethod yX4_nextsOf ∈ gws from g_5 168 (by decide +kernel) rfl, show Cond.selects RX4 yX4_nextsOf yX4_nextsOf ∈ gws from g_0 44 (by decide +kernel) rfl, Or.inl (show Cond.methodLink RX4 50 yX4_nextsOf ∈ gws from g_5 166 (by decide +kernel) rfl)⟩
theorem svX4_53 : sV RX4 53 mX4_join 1 := ⟨moX4_join, show (parseMethodDescriptor yX4_join.desc).map (fun d => d.parameters.length) = some 1 by decide +kernel, show Cond.instanceMethod yX4_join ∈ gws from g_5 173 (by decide +kernel) rfl, show Cond.selects RX4 yX4_join yX4_join ∈ gws from g_0 45 (by decide +kernel) rfl, Or.inl (show Cond.methodLink RX4 53 yX4_join ∈ gws from g_5 171 (by decide +kernel) rfl)⟩
theorem ssX4_60 : sS RX4 60 mX11_between 2 := ⟨moX11_between, show (parseMethodDescriptor yX11_between.desc).map (fun d => d.parameters.length) = some 2 by decide +kernel, show Cond.static yX11_between ∈ gws from g_3 159 (by decide +kernel) rfl, Or.inr ⟨"HullEars", show Cond.methodLinkNest RX4 60 yX11_between "HullEars" ∈ nws from n_5 170 (by decide +kernel) rfl⟩⟩
theorem ssX4_63 : sS RX4 63 mJ7_fill_53178 2 := ⟨moJ7_fill_53178, show (parseMethodDescriptor yJ7_fill_53178.desc).map (fun d => d.parameters.length) = some 2 by decide +kernel, show Cond.static yJ7_fill_53178 ∈ gws from g_1 103 (by decide +kernel) rfl, Or.inl (show Cond.methodLink RX4 63 yJ7_fill_53178 ∈ gws from g_5 175 (by decide +kernel) rfl)⟩
theorem svX4_69 (d : Nat) : sV RX4 69 (mX4_joinOne d) 3 := ⟨moX4_joinOne d, show (parseMethodDescriptor yX4_joinOne.desc).map (fun d => d.parameters.length) = some 3 by decide +kernel, show Cond.instanceMethod yX4_joinOne ∈ gws from g_5 178 (by decide +kernel) rfl, show Cond.selects RX4 yX4_joinOne yX4_joinOne ∈ gws from g_0 46 (by decide +kernel) rfl, Or.inl (show Cond.methodLink RX4 69 yX4_joinOne ∈ gws from g_5 176 (by decide +kernel) rfl)⟩
theorem svX4_73 : sV RX4 73 mX4_canBe 2 := ⟨moX4_canBe, show (parseMethodDescriptor yX4_canBe.desc).map (fun d => d.parameters.length) = some 2 by decide +kernel, show Cond.instanceMethod yX4_canBe ∈ gws from g_5 190 (by decide +kernel) rfl, show Cond.selects RX4 yX4_canBe yX4_canBe ∈ gws from g_0 47 (by decide +kernel) rfl, Or.inl (show Cond.methodLink RX4 73 yX4_canBe ∈ gws from g_5 188 (by decide +kernel) rfl)⟩
theorem svX5_42 : sV RX5 42 mX8_copy 1 := ⟨moX8_copy, show (parseMethodDescriptor yX8_copy.desc).map (fun d => d.parameters.length) = some 1 by decide +kernel, show Cond.instanceMethod yX8_copy ∈ gws from g_4 135 (by decide +kernel) rfl, show Cond.selects RX8 yX8_copy yX8_copy ∈ gws from g_4 136 (by decide +kernel) rfl, Or.inl (show Cond.methodLink RX5 42 yX8_copy ∈ gws from g_4 134 (by decide +kernel) rfl)⟩
theorem svX5_52 : sV RX5 52 mX5_answer 2 := ⟨moX5_answer, show (parseMethodDescriptor yX5_answer.desc).map (fun d => d.parameters.length) = some 2 by decide +kernel, show Cond.instanceMethod yX5_answer ∈ gws from g_5 123 (by decide +kernel) rfl, show Cond.selects RX5 yX5_answer yX5_answer ∈ gws from g_5 124 (by decide +kernel) rfl, Or.inl (show Cond.methodLink RX5 52 yX5_answer ∈ gws from g_5 122 (by decide +kernel) rfl)⟩
theorem svX5_56 : sV RX5 56 mX8_at 2 := ⟨moX8_at, show (parseMethodDescriptor yX8_at.desc).map (fun d => d.parameters.length) = some 2 by decide +kernel, show Cond.instanceMethod yX8_at ∈ gws from g_3 9 (by decide +kernel) rfl, show Cond.selects RX8 yX8_at yX8_at ∈ gws from g_3 10 (by decide +kernel) rfl, Or.inl (show Cond.methodLink RX5 56 yX8_at ∈ gws from g_5 126 (by decide +kernel) rfl)⟩
theorem svX5_59 : sV RX5 59 mX5_holds 1 := ⟨moX5_holds, show (parseMethodDescriptor yX5_holds.desc).map (fun d => d.parameters.length) = some 1 by decide +kernel, show Cond.instanceMethod yX5_holds ∈ gws from g_5 129 (by decide +kernel) rfl, show Cond.selects RX5 yX5_holds yX5_holds ∈ gws from g_0 40 (by decide +kernel) rfl, Or.inl (show Cond.methodLink RX5 59 yX5_holds ∈ gws from g_5 127 (by decide +kernel) rfl)⟩
theorem svX5_63 : sV RX5 63 mX5_work 2 := ⟨moX5_work, show (parseMethodDescriptor yX5_work.desc).map (fun d => d.parameters.length) = some 2 by decide +kernel, show Cond.instanceMethod yX5_work ∈ gws from g_5 133 (by decide +kernel) rfl, show Cond.selects RX5 yX5_work yX5_work ∈ gws from g_0 41 (by decide +kernel) rfl, Or.inl (show Cond.methodLink RX5 63 yX5_work ∈ gws from g_5 131 (by decide +kernel) rfl)⟩
theorem ssX5_67 : sS RX5 67 mJ9_max_7cf53 2 := ⟨moJ9_max_7cf53, show (parseMethodDescriptor yJ9_max_7cf53.desc).map (fun d => d.parameters.length) = some 2 by decide +kernel, show Cond.static yJ9_max_7cf53 ∈ gws from g_1 50 (by decide +kernel) rfl, Or.inl (show Cond.methodLink RX5 67 yJ9_max_7cf53 ∈ gws from g_5 135 (by decide +kernel) rfl)⟩
theorem svX5_72 : sV RX5 72 mX5_lay 1 := ⟨moX5_lay, show (parseMethodDescriptor yX5_lay.desc).map (fun d => d.parameters.length) = some 1 by decide +kernel, show Cond.instanceMethod yX5_lay ∈ gws from g_5 138 (by decide +kernel) rfl, show Cond.selects RX5 yX5_lay yX5_lay ∈ gws from g_0 42 (by decide +kernel) rfl, Or.inl (show Cond.methodLink RX5 72 yX5_lay ∈ gws from g_5 136 (by decide +kernel) rfl)⟩
theorem ssX5_76 : sS RX5 76 mJ9_floorMod_7cf53 2 := ⟨moJ9_floorMod_7cf53, show (parseMethodDescriptor yJ9_floorMod_7cf53.desc).map (fun d => d.parameters.length) = some 2 by decide +kernel, show Cond.static yJ9_floorMod_7cf53 ∈ gws from g_3 162 (by decide +kernel) rfl, Or.inl (show Cond.methodLink RX5 76 yJ9_floorMod_7cf53 ∈ gws from g_5 140 (by decide +kernel) rfl)⟩
theorem svX5_79 : sV RX5 79 mX5_joinTwo 1 := ⟨moX5_joinTwo, show (parseMethodDescriptor yX5_joinTwo.desc).map (fun d => d.parameters.length) = some 1 by decide +kernel, show Cond.instanceMethod yX5_joinTwo ∈ gws from g_5 143 (by decide +kernel) rfl, show Cond.selects RX5 yX5_joinTwo yX5_joinTwo ∈ gws from g_0 43 (by decide +kernel) rfl, Or.inl (show Cond.methodLink RX5 79 yX5_joinTwo ∈ gws from g_5 141 (by decide +kernel) rfl)⟩
theorem ssX6_38 : sS RX6 38 mJ9_min_7cf53 2 := ⟨moJ9_min_7cf53, show (parseMethodDescriptor yJ9_min_7cf53.desc).map (fun d => d.parameters.length) = some 2 by decide +kernel, show Cond.static yJ9_min_7cf53 ∈ gws from g_3 91 (by decide +kernel) rfl, Or.inl (show Cond.methodLink RX6 38 yJ9_min_7cf53 ∈ gws from g_3 234 (by decide +kernel) rfl)⟩
theorem ssX6_44 : sS RX6 44 mJ9_max_7cf53 2 := ⟨moJ9_max_7cf53, show (parseMethodDescriptor yJ9_max_7cf53.desc).map (fun d => d.parameters.length) = some 2 by decide +kernel, show Cond.static yJ9_max_7cf53 ∈ gws from g_1 50 (by decide +kernel) rfl, Or.inl (show Cond.methodLink RX6 44 yJ9_max_7cf53 ∈ gws from g_3 235 (by decide +kernel) rfl)⟩
theorem svX6_47 : sV RX6 47 mX5_clear 0 := ⟨moX5_clear, show (parseMethodDescriptor yX5_clear.desc).map (fun d => d.parameters.length) = some 0 by decide +kernel, show Cond.instanceMethod yX5_clear ∈ gws from g_3 237 (by decide +kernel) rfl, show Cond.selects RX5 yX5_clear yX5_clear ∈ gws from g_3 238 (by decide +kernel) rfl, Or.inl (show Cond.methodLink RX6 47 yX5_clear ∈ gws from g_3 236 (by decide +kernel) rfl)⟩
theorem svX6_50 : sV RX6 50 mX6_move 0 := ⟨moX6_move, show (parseMethodDescriptor yX6_move.desc).map (fun d => d.parameters.length) = some 0 by decide +kernel, show Cond.instanceMethod yX6_move ∈ gws from g_4 2 (by decide +kernel) rfl, show Cond.selects RX6 yX6_move yX6_move ∈ gws from g_0 11 (by decide +kernel) rfl, Or.inl (show Cond.methodLink RX6 50 yX6_move ∈ gws from g_4 0 (by decide +kernel) rfl)⟩
theorem svX6_53 : sV RX6 53 mX6_readClause 0 := ⟨moX6_readClause, show (parseMethodDescriptor yX6_readClause.desc).map (fun d => d.parameters.length) = some 0 by decide +kernel, show Cond.instanceMethod yX6_readClause ∈ gws from g_4 10 (by decide +kernel) rfl, show Cond.selects RX6 yX6_readClause yX6_readClause ∈ gws from g_0 13 (by decide +kernel) rfl, Or.inl (show Cond.methodLink RX6 53 yX6_readClause ∈ gws from g_4 8 (by decide +kernel) rfl)⟩
theorem svX6_57 : sV RX6 57 mX6_isSign 1 := ⟨moX6_isSign, show (parseMethodDescriptor yX6_isSign.desc).map (fun d => d.parameters.length) = some 1 by decide +kernel, show Cond.instanceMethod yX6_isSign ∈ gws from g_4 81 (by decide +kernel) rfl, show Cond.selects RX6 yX6_isSign yX6_isSign ∈ gws from g_0 18 (by decide +kernel) rfl, Or.inl (show Cond.methodLink RX6 57 yX6_isSign ∈ gws from g_4 79 (by decide +kernel) rfl)⟩
theorem svX6_65 : sV RX6 65 mX8_isFull 0 := ⟨moX8_isFull, show (parseMethodDescriptor yX8_isFull.desc).map (fun d => d.parameters.length) = some 0 by decide +kernel, show Cond.instanceMethod yX8_isFull ∈ gws from g_3 44 (by decide +kernel) rfl, show Cond.selects RX8 yX8_isFull yX8_isFull ∈ gws from g_3 45 (by decide +kernel) rfl, Or.inl (show Cond.methodLink RX6 65 yX8_isFull ∈ gws from g_4 129 (by decide +kernel) rfl)⟩
theorem svX6_72 : sV RX6 72 mX6_isWord 1 := ⟨moX6_isWord, show (parseMethodDescriptor yX6_isWord.desc).map (fun d => d.parameters.length) = some 1 by decide +kernel, show Cond.instanceMethod yX6_isWord ∈ gws from g_4 15 (by decide +kernel) rfl, show Cond.selects RX6 yX6_isWord yX6_isWord ∈ gws from g_0 14 (by decide +kernel) rfl, Or.inl (show Cond.methodLink RX6 72 yX6_isWord ∈ gws from g_4 13 (by decide +kernel) rfl)⟩
theorem svX6_83 (d : Nat) : sV RX6 83 (mX6_readSum d) 1 := ⟨moX6_readSum d, show (parseMethodDescriptor yX6_readSum.desc).map (fun d => d.parameters.length) = some 1 by decide +kernel, show Cond.instanceMethod yX6_readSum ∈ gws from g_4 69 (by decide +kernel) rfl, show Cond.selects RX6 yX6_readSum yX6_readSum ∈ gws from g_0 15 (by decide +kernel) rfl, Or.inl (show Cond.methodLink RX6 83 yX6_readSum ∈ gws from g_4 67 (by decide +kernel) rfl)⟩
theorem svX6_89 (d : Nat) : sV RX6 89 (mX6_readTest d) 1 := ⟨moX6_readTest d, show (parseMethodDescriptor yX6_readTest.desc).map (fun d => d.parameters.length) = some 1 by decide +kernel, show Cond.instanceMethod yX6_readTest ∈ gws from g_4 89 (by decide +kernel) rfl, show Cond.selects RX6 yX6_readTest yX6_readTest ∈ gws from g_0 20 (by decide +kernel) rfl, Or.inl (show Cond.methodLink RX6 89 yX6_readTest ∈ gws from g_4 87 (by decide +kernel) rfl)⟩
theorem svX6_92 : sV RX6 92 mX8_add 5 := ⟨moX8_add, show (parseMethodDescriptor yX8_add.desc).map (fun d => d.parameters.length) = some 5 by decide +kernel, show Cond.instanceMethod yX8_add ∈ gws from g_3 48 (by decide +kernel) rfl, show Cond.selects RX8 yX8_add yX8_add ∈ gws from g_3 49 (by decide +kernel) rfl, Or.inl (show Cond.methodLink RX6 92 yX8_add ∈ gws from g_4 128 (by decide +kernel) rfl)⟩
theorem svX6_96 (d : Nat) : sV RX6 96 (mX6_readBoth d) 1 := ⟨moX6_readBoth d, show (parseMethodDescriptor yX6_readBoth.desc).map (fun d => d.parameters.length) = some 1 by decide +kernel, show Cond.instanceMethod yX6_readBoth ∈ gws from g_4 93 (by decide +kernel) rfl, show Cond.selects RX6 yX6_readBoth yX6_readBoth ∈ gws from g_0 21 (by decide +kernel) rfl, Or.inl (show Cond.methodLink RX6 96 yX6_readBoth ∈ gws from g_4 91 (by decide +kernel) rfl)⟩
theorem svX6_101 : sV RX6 101 mX5_add 2 := ⟨moX5_add, show (parseMethodDescriptor yX5_add.desc).map (fun d => d.parameters.length) = some 2 by decide +kernel, show Cond.instanceMethod yX5_add ∈ gws from g_4 105 (by decide +kernel) rfl, show Cond.selects RX5 yX5_add yX5_add ∈ gws from g_4 106 (by decide +kernel) rfl, Or.inl (show Cond.methodLink RX6 101 yX5_add ∈ gws from g_4 104 (by decide +kernel) rfl)⟩
theorem svX6_104 : sV RX6 104 mX5_leadHere 1 := ⟨moX5_leadHere, show (parseMethodDescriptor yX5_leadHere.desc).map (fun d => d.parameters.length) = some 1 by decide +kernel, show Cond.instanceMethod yX5_leadHere ∈ gws from g_4 110 (by decide +kernel) rfl, show Cond.selects RX5 yX5_leadHere yX5_leadHere ∈ gws from g_4 111 (by decide +kernel) rfl, Or.inl (show Cond.methodLink RX6 104 yX5_leadHere ∈ gws from g_4 109 (by decide +kernel) rfl)⟩
theorem svX6_108 (d : Nat) : sV RX6 108 (mX6_readPlain d) 1 := ⟨moX6_readPlain d, show (parseMethodDescriptor yX6_readPlain.desc).map (fun d => d.parameters.length) = some 1 by decide +kernel, show Cond.instanceMethod yX6_readPlain ∈ gws from g_4 97 (by decide +kernel) rfl, show Cond.selects RX6 yX6_readPlain yX6_readPlain ∈ gws from g_0 22 (by decide +kernel) rfl, Or.inl (show Cond.methodLink RX6 108 yX6_readPlain ∈ gws from g_4 95 (by decide +kernel) rfl)⟩
theorem svX6_115 (d : Nat) : sV RX6 115 (mX6_readInner d) 2 := ⟨moX6_readInner d, show (parseMethodDescriptor yX6_readInner.desc).map (fun d => d.parameters.length) = some 2 by decide +kernel, show Cond.instanceMethod yX6_readInner ∈ gws from g_4 85 (by decide +kernel) rfl, show Cond.selects RX6 yX6_readInner yX6_readInner ∈ gws from g_0 19 (by decide +kernel) rfl, Or.inl (show Cond.methodLink RX6 115 yX6_readInner ∈ gws from g_4 83 (by decide +kernel) rfl)⟩
theorem svX6_119 (d : Nat) : sV RX6 119 (mX6_readComparison d) 1 := ⟨moX6_readComparison d, show (parseMethodDescriptor yX6_readComparison.desc).map (fun d => d.parameters.length) = some 1 by decide +kernel, show Cond.instanceMethod yX6_readComparison ∈ gws from g_4 102 (by decide +kernel) rfl, show Cond.selects RX6 yX6_readComparison yX6_readComparison ∈ gws from g_0 23 (by decide +kernel) rfl, Or.inl (show Cond.methodLink RX6 119 yX6_readComparison ∈ gws from g_4 100 (by decide +kernel) rfl)⟩
theorem svX6_122 (d : Nat) : sV RX6 122 (mX6_readTerm d) 1 := ⟨moX6_readTerm d, show (parseMethodDescriptor yX6_readTerm.desc).map (fun d => d.parameters.length) = some 1 by decide +kernel, show Cond.instanceMethod yX6_readTerm ∈ gws from g_4 73 (by decide +kernel) rfl, show Cond.selects RX6 yX6_readTerm yX6_readTerm ∈ gws from g_0 16 (by decide +kernel) rfl, Or.inl (show Cond.methodLink RX6 122 yX6_readTerm ∈ gws from g_4 71 (by decide +kernel) rfl)⟩
theorem svX6_125 (d : Nat) : sV RX6 125 (mX6_readPart d) 1 := ⟨moX6_readPart d, show (parseMethodDescriptor yX6_readPart.desc).map (fun d => d.parameters.length) = some 1 by decide +kernel, show Cond.instanceMethod yX6_readPart ∈ gws from g_4 77 (by decide +kernel) rfl, show Cond.selects RX6 yX6_readPart yX6_readPart ∈ gws from g_0 17 (by decide +kernel) rfl, Or.inl (show Cond.methodLink RX6 125 yX6_readPart ∈ gws from g_4 75 (by decide +kernel) rfl)⟩
theorem svX6_128 : sV RX6 128 mX6_number 0 := ⟨moX6_number, show (parseMethodDescriptor yX6_number.desc).map (fun d => d.parameters.length) = some 0 by decide +kernel, show Cond.instanceMethod yX6_number ∈ gws from g_4 116 (by decide +kernel) rfl, show Cond.selects RX6 yX6_number yX6_number ∈ gws from g_0 24 (by decide +kernel) rfl, Or.inl (show Cond.methodLink RX6 128 yX6_number ∈ gws from g_4 114 (by decide +kernel) rfl)⟩
theorem svX6_132 : sV RX6 132 mX6_wordAsked 0 := ⟨moX6_wordAsked, show (parseMethodDescriptor yX6_wordAsked.desc).map (fun d => d.parameters.length) = some 0 by decide +kernel, show Cond.instanceMethod yX6_wordAsked ∈ gws from g_4 120 (by decide +kernel) rfl, show Cond.selects RX6 yX6_wordAsked yX6_wordAsked ∈ gws from g_0 25 (by decide +kernel) rfl, Or.inl (show Cond.methodLink RX6 132 yX6_wordAsked ∈ gws from g_4 118 (by decide +kernel) rfl)⟩
theorem svX6_145 : sV RX6 145 mX6_kindAt 1 := ⟨moX6_kindAt, show (parseMethodDescriptor yX6_kindAt.desc).map (fun d => d.parameters.length) = some 1 by decide +kernel, show Cond.instanceMethod yX6_kindAt ∈ gws from g_4 6 (by decide +kernel) rfl, show Cond.selects RX6 yX6_kindAt yX6_kindAt ∈ gws from g_0 12 (by decide +kernel) rfl, Or.inl (show Cond.methodLink RX6 145 yX6_kindAt ∈ gws from g_4 4 (by decide +kernel) rfl)⟩
theorem ssX7_19 : sS RX7 19 mJ9_abs_0f7a4 1 := ⟨moJ9_abs_0f7a4, show (parseMethodDescriptor yJ9_abs_0f7a4.desc).map (fun d => d.parameters.length) = some 1 by decide +kernel, show Cond.static yJ9_abs_0f7a4 ∈ gws from g_3 13 (by decide +kernel) rfl, Or.inl (show Cond.methodLink RX7 19 yJ9_abs_0f7a4 ∈ gws from g_4 169 (by decide +kernel) rfl)⟩
theorem ssX7_25 : sS RX7 25 mX0_bits 2 := ⟨moX0_bits, show (parseMethodDescriptor yX0_bits.desc).map (fun d => d.parameters.length) = some 2 by decide +kernel, show Cond.static yX0_bits ∈ gws from g_3 191 (by decide +kernel) rfl, Or.inl (show Cond.methodLink RX7 25 yX0_bits ∈ gws from g_4 193 (by decide +kernel) rfl)⟩
theorem svX8_31 : sV RX8 31 mX8_isFull 0 := ⟨moX8_isFull, show (parseMethodDescriptor yX8_isFull.desc).map (fun d => d.parameters.length) = some 0 by decide +kernel, show Cond.instanceMethod yX8_isFull ∈ gws from g_3 44 (by decide +kernel) rfl, show Cond.selects RX8 yX8_isFull yX8_isFull ∈ gws from g_3 45 (by decide +kernel) rfl, Or.inl (show Cond.methodLink RX8 31 yX8_isFull ∈ gws from g_3 51 (by decide +kernel) rfl)⟩
theorem svX8_35 : sV RX8 35 mX8_put 2 := ⟨moX8_put, show (parseMethodDescriptor yX8_put.desc).map (fun d => d.parameters.length) = some 2 by decide +kernel, show Cond.instanceMethod yX8_put ∈ gws from g_3 54 (by decide +kernel) rfl, show Cond.selects RX8 yX8_put yX8_put ∈ gws from g_0 3 (by decide +kernel) rfl, Or.inl (show Cond.methodLink RX8 35 yX8_put ∈ gws from g_3 52 (by decide +kernel) rfl)⟩
theorem ssX8_39 : sS RX8 39 mJ9_min_7cf53 2 := ⟨moJ9_min_7cf53, show (parseMethodDescriptor yJ9_min_7cf53.desc).map (fun d => d.parameters.length) = some 2 by decide +kernel, show Cond.static yJ9_min_7cf53 ∈ gws from g_3 91 (by decide +kernel) rfl, Or.inl (show Cond.methodLink RX8 39 yJ9_min_7cf53 ∈ gws from g_4 138 (by decide +kernel) rfl)⟩
theorem svX9_43 : sV RX9 43 mX3_sortOut 0 := ⟨moX3_sortOut, show (parseMethodDescriptor yX3_sortOut.desc).map (fun d => d.parameters.length) = some 0 by decide +kernel, show Cond.instanceMethod yX3_sortOut ∈ gws from g_3 139 (by decide +kernel) rfl, show Cond.selects RX3 yX3_sortOut yX3_sortOut ∈ gws from g_3 140 (by decide +kernel) rfl, Or.inl (show Cond.methodLink RX9 43 yX3_sortOut ∈ gws from g_5 0 (by decide +kernel) rfl)⟩
theorem svX9_48 : sV RX9 48 mX3_tune 0 := ⟨moX3_tune, show (parseMethodDescriptor yX3_tune.desc).map (fun d => d.parameters.length) = some 0 by decide +kernel, show Cond.instanceMethod yX3_tune ∈ gws from g_4 156 (by decide +kernel) rfl, show Cond.selects RX3 yX3_tune yX3_tune ∈ gws from g_4 157 (by decide +kernel) rfl, Or.inl (show Cond.methodLink RX9 48 yX3_tune ∈ gws from g_5 1 (by decide +kernel) rfl)⟩
theorem ssX9_51 : sS RX9 51 mJ7_fill_53178 2 := ⟨moJ7_fill_53178, show (parseMethodDescriptor yJ7_fill_53178.desc).map (fun d => d.parameters.length) = some 2 by decide +kernel, show Cond.static yJ7_fill_53178 ∈ gws from g_1 103 (by decide +kernel) rfl, Or.inl (show Cond.methodLink RX9 51 yJ7_fill_53178 ∈ gws from g_5 6 (by decide +kernel) rfl)⟩
theorem svX9_57 : sV RX9 57 mX9_tally 1 := ⟨moX9_tally, show (parseMethodDescriptor yX9_tally.desc).map (fun d => d.parameters.length) = some 1 by decide +kernel, show Cond.instanceMethod yX9_tally ∈ gws from g_5 4 (by decide +kernel) rfl, show Cond.selects RX9 yX9_tally yX9_tally ∈ gws from g_0 29 (by decide +kernel) rfl, Or.inl (show Cond.methodLink RX9 57 yX9_tally ∈ gws from g_5 2 (by decide +kernel) rfl)⟩
theorem svX9_61 (d : Nat) : sV RX9 61 (mX9_spread d) 4 := ⟨moX9_spread d, show (parseMethodDescriptor yX9_spread.desc).map (fun d => d.parameters.length) = some 4 by decide +kernel, show Cond.instanceMethod yX9_spread ∈ gws from g_5 41 (by decide +kernel) rfl, show Cond.selects RX9 yX9_spread yX9_spread ∈ gws from g_0 32 (by decide +kernel) rfl, Or.inl (show Cond.methodLink RX9 61 yX9_spread ∈ gws from g_5 39 (by decide +kernel) rfl)⟩
theorem svX9_65 : sV RX9 65 mX9_noteFewest 2 := ⟨moX9_noteFewest, show (parseMethodDescriptor yX9_noteFewest.desc).map (fun d => d.parameters.length) = some 2 by decide +kernel, show Cond.instanceMethod yX9_noteFewest ∈ gws from g_5 46 (by decide +kernel) rfl, show Cond.selects RX9 yX9_noteFewest yX9_noteFewest ∈ gws from g_0 33 (by decide +kernel) rfl, Or.inl (show Cond.methodLink RX9 65 yX9_noteFewest ∈ gws from g_5 44 (by decide +kernel) rfl)⟩
theorem svX9_69 : sV RX9 69 mX9_addMisses 4 := ⟨moX9_addMisses, show (parseMethodDescriptor yX9_addMisses.desc).map (fun d => d.parameters.length) = some 4 by decide +kernel, show Cond.instanceMethod yX9_addMisses ∈ gws from g_5 9 (by decide +kernel) rfl, show Cond.selects RX9 yX9_addMisses yX9_addMisses ∈ gws from g_0 30 (by decide +kernel) rfl, Or.inl (show Cond.methodLink RX9 69 yX9_addMisses ∈ gws from g_5 7 (by decide +kernel) rfl)⟩
theorem svX9_93 : sV RX9 93 mX9_takeFewer 1 := ⟨moX9_takeFewer, show (parseMethodDescriptor yX9_takeFewer.desc).map (fun d => d.parameters.length) = some 1 by decide +kernel, show Cond.instanceMethod yX9_takeFewer ∈ gws from g_5 16 (by decide +kernel) rfl, show Cond.selects RX9 yX9_takeFewer yX9_takeFewer ∈ gws from g_0 31 (by decide +kernel) rfl, Or.inl (show Cond.methodLink RX9 93 yX9_takeFewer ∈ gws from g_5 14 (by decide +kernel) rfl)⟩
theorem svX9_96 : sV RX9 96 mX8_at 2 := ⟨moX8_at, show (parseMethodDescriptor yX8_at.desc).map (fun d => d.parameters.length) = some 2 by decide +kernel, show Cond.instanceMethod yX8_at ∈ gws from g_3 9 (by decide +kernel) rfl, show Cond.selects RX8 yX8_at yX8_at ∈ gws from g_3 10 (by decide +kernel) rfl, Or.inl (show Cond.methodLink RX9 96 yX8_at ∈ gws from g_5 11 (by decide +kernel) rfl)⟩
theorem svX9_100 : sV RX9 100 mX3_look 4 := ⟨moX3_look, show (parseMethodDescriptor yX3_look.desc).map (fun d => d.parameters.length) = some 4 by decide +kernel, show Cond.instanceMethod yX3_look ∈ gws from g_4 180 (by decide +kernel) rfl, show Cond.selects RX3 yX3_look yX3_look ∈ gws from g_4 181 (by decide +kernel) rfl, Or.inl (show Cond.methodLink RX9 100 yX3_look ∈ gws from g_5 12 (by decide +kernel) rfl)⟩
theorem ssX9_106 : sS RX9 106 mJ6_bitCount_0f7a4 1 := ⟨moJ6_bitCount_0f7a4, show (parseMethodDescriptor yJ6_bitCount_0f7a4.desc).map (fun d => d.parameters.length) = some 1 by decide +kernel, show Cond.static yJ6_bitCount_0f7a4 ∈ gws from g_4 200 (by decide +kernel) rfl, Or.inl (show Cond.methodLink RX9 106 yJ6_bitCount_0f7a4 ∈ gws from g_5 43 (by decide +kernel) rfl)⟩
theorem ssX9_112 : sS RX9 112 mX3_lowestBit 1 := ⟨moX3_lowestBit, show (parseMethodDescriptor yX3_lowestBit.desc).map (fun d => d.parameters.length) = some 1 by decide +kernel, show Cond.static yX3_lowestBit ∈ gws from g_4 225 (by decide +kernel) rfl, Or.inl (show Cond.methodLink RX9 112 yX3_lowestBit ∈ gws from g_5 48 (by decide +kernel) rfl)⟩
theorem ssX9_115 : sS RX9 115 mX3_codeOf 2 := ⟨moX3_codeOf, show (parseMethodDescriptor yX3_codeOf.desc).map (fun d => d.parameters.length) = some 2 by decide +kernel, show Cond.static yX3_codeOf ∈ gws from g_5 50 (by decide +kernel) rfl, Or.inl (show Cond.methodLink RX9 115 yX3_codeOf ∈ gws from g_5 49 (by decide +kernel) rfl)⟩
theorem cplX1_57 : Cond.methodLink RX1 57 arraycopyName ∈ gws := g_6 67 (by decide +kernel) rfl
theorem cplX10_45 : Cond.methodLink RX10 45 arraycopyName ∈ gws := g_6 72 (by decide +kernel) rfl
theorem cplX2_69 : Cond.methodLink RX2 69 arraycopyName ∈ gws := g_1 154 (by decide +kernel) rfl
theorem cplX3_214 : Cond.methodLink RX3 214 arraycopyName ∈ gws := g_4 194 (by decide +kernel) rfl
theorem cplX4_77 : Cond.methodLink RX4 77 arraycopyName ∈ gws := g_5 192 (by decide +kernel) rfl
theorem cplX5_46 : Cond.methodLink RX5 46 arraycopyName ∈ gws := g_4 140 (by decide +kernel) rfl
theorem cplX8_42 : Cond.methodLink RX8 42 arraycopyName ∈ gws := g_4 139 (by decide +kernel) rfl
theorem cplX9_82 : Cond.methodLink RX9 82 arraycopyName ∈ gws := g_5 13 (by decide +kernel) rfl
theorem cp_nat : Cond.native arraycopyName ∈ gws := g_1 156 (by decide +kernel) rfl
theorem cp_st : Cond.static arraycopyName ∈ gws := g_1 155 (by decide +kernel) rfl
theorem cp_in : Cond.initialized "java/lang/System" ∈ gws := g_1 9 (by decide +kernel) rfl
