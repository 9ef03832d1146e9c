def wkE (hs : List String) (e : String) (L : ML) : Option (Int32 × ML) := match hs with
  | [] => none
  | [a] => if e = a then some (1, L) else none
  | a :: b :: _ => if e = a then some (1, L) else if e = b then some (2, L) else none
def wkI (hs : List String) (r : String ⊕ Int32) (L : ML) : Option (Int32 × ML) := match r with
  | .inl e => wkE hs e L
  | .inr v => some (0, upl L 160 0 v.toInt64)
def wkB (hs : List String) (r : String ⊕ Bool) (L : ML) : Option (Int32 × ML) := match r with
  | .inl e => wkE hs e L
  | .inr v => some (0, upl L 160 0 (if v = true then 1 else 0))
def wkJ (hs : List String) (r : String ⊕ Int64) (L : ML) : Option (Int32 × ML) := match r with
  | .inl e => wkE hs e L
  | .inr v => some (0, upl L 160 0 v)
theorem cle_13 : Cond.classLink RL 13 "java/lang/IllegalArgumentException" ∈ lw_good := tg3 92 rfl rfl
theorem cle_15 : Cond.classLink RL 15 "java/lang/UnsupportedOperationException" ∈ lw_good := tg3 93 rfl rfl
theorem cle_24 : Cond.classLink RL 24 "java/lang/IndexOutOfBoundsException" ∈ lw_good := tg4 198 rfl rfl
theorem cle_26 : Cond.classLink RL 26 "java/util/NoSuchElementException" ∈ lw_good := tg4 199 rfl rfl
theorem sh160 : shp 160 = (3, 1) := by decide +kernel
theorem inL0 : vp_in 0 1 := by unfold vp_in; decide
theorem ckL_37 : CK RL 37 mX11_at 2 := ⟨tg5 62 rfl rfl, tg1 1 rfl rfl, tg5 65 rfl rfl, ⟨by decide, by decide⟩, by decide +kernel, by decide⟩
theorem cvL_X11_at : CV mX11_at 9 := ⟨tg5 63 rfl rfl, tg5 64 rfl rfl, _, rfl, rfl⟩
theorem ckL_220 : CK RL 220 mX11_back 0 := ⟨tg3 73 rfl rfl, tg1 1 rfl rfl, tg3 76 rfl rfl, ⟨by decide, by decide⟩, by decide +kernel, by decide⟩
theorem cvL_X11_back : CV mX11_back 9 := ⟨tg3 74 rfl rfl, tg3 75 rfl rfl, _, rfl, rfl⟩
theorem ckL_83 : CK RL 83 mX11_breach 2 := ⟨tg6 25 rfl rfl, tg1 1 rfl rfl, tg6 28 rfl rfl, ⟨by decide, by decide⟩, by decide +kernel, by decide⟩
theorem cvL_X11_breach : CV mX11_breach 9 := ⟨tg6 26 rfl rfl, tg6 27 rfl rfl, _, rfl, rfl⟩
theorem ckL_61 : CK RL 61 mX11_carpet 2 := ⟨tg5 155 rfl rfl, tg1 1 rfl rfl, tg5 158 rfl rfl, ⟨by decide, by decide⟩, by decide +kernel, by decide⟩
theorem cvL_X11_carpet : CV mX11_carpet 9 := ⟨tg5 156 rfl rfl, tg5 157 rfl rfl, _, rfl, rfl⟩
theorem ckL_34 : CK RL 34 mX11_cost 2 := ⟨tg5 53 rfl rfl, tg1 1 rfl rfl, tg5 56 rfl rfl, ⟨by decide, by decide⟩, by decide +kernel, by decide⟩
theorem cvL_X11_cost : CV mX11_cost 9 := ⟨tg5 54 rfl rfl, tg5 55 rfl rfl, _, rfl, rfl⟩
theorem ckL_224 : CK RL 224 mX11_count 1 := ⟨tg3 81 rfl rfl, tg1 1 rfl rfl, tg3 84 rfl rfl, ⟨by decide, by decide⟩, by decide +kernel, by decide⟩
theorem cvL_X11_count : CV mX11_count 9 := ⟨tg3 82 rfl rfl, tg3 83 rfl rfl, _, rfl, rfl⟩
theorem ckL_70 : CK RL 70 mX11_due 2 := ⟨tg5 189 rfl rfl, tg1 1 rfl rfl, tg5 192 rfl rfl, ⟨by decide, by decide⟩, by decide +kernel, by decide⟩
theorem cvL_X11_due : CV mX11_due 9 := ⟨tg5 190 rfl rfl, tg5 191 rfl rfl, _, rfl, rfl⟩
theorem ckL_90 : CK RL 90 mX11_ears 2 := ⟨tg6 48 rfl rfl, tg1 1 rfl rfl, tg6 51 rfl rfl, ⟨by decide, by decide⟩, by decide +kernel, by decide⟩
theorem cvL_X11_ears : CV mX11_ears 9 := ⟨tg6 49 rfl rfl, tg6 50 rfl rfl, _, rfl, rfl⟩
theorem ckL_109 : CK RL 109 mX11_end 1 := ⟨tg2 181 rfl rfl, tg1 1 rfl rfl, tg2 184 rfl rfl, ⟨by decide, by decide⟩, by decide +kernel, by decide⟩
theorem cvL_X11_end : CV mX11_end 9 := ⟨tg2 182 rfl rfl, tg2 183 rfl rfl, _, rfl, rfl⟩
theorem ckL_125 : CK RL 125 mX11_fault 0 := ⟨tg2 185 rfl rfl, tg1 1 rfl rfl, tg2 188 rfl rfl, ⟨by decide, by decide⟩, by decide +kernel, by decide⟩
theorem cvL_X11_fault : CV mX11_fault 9 := ⟨tg2 186 rfl rfl, tg2 187 rfl rfl, _, rfl, rfl⟩
theorem ckL_104 : CK RL 104 mX11_feed 5 := ⟨tg2 173 rfl rfl, tg1 1 rfl rfl, tg2 176 rfl rfl, ⟨by decide, by decide⟩, by decide +kernel, by decide⟩
theorem cvL_X11_feed : CV mX11_feed 9 := ⟨tg2 174 rfl rfl, tg2 175 rfl rfl, _, rfl, rfl⟩
theorem ckL_80 : CK RL 80 mX11_ghost 1 := ⟨tg6 3 rfl rfl, tg1 1 rfl rfl, tg6 6 rfl rfl, ⟨by decide, by decide⟩, by decide +kernel, by decide⟩
theorem cvL_X11_ghost : CV mX11_ghost 9 := ⟨tg6 4 rfl rfl, tg6 5 rfl rfl, _, rfl, rfl⟩
theorem ckL_51 : CK RL 51 mX11_go 2 := ⟨tg5 128 rfl rfl, tg1 1 rfl rfl, tg5 131 rfl rfl, ⟨by decide, by decide⟩, by decide +kernel, by decide⟩
theorem cvL_X11_go : CV mX11_go 9 := ⟨tg5 129 rfl rfl, tg5 130 rfl rfl, _, rfl, rfl⟩
theorem ckL_28 : CK RL 28 mX11_heir 2 := ⟨tg5 23 rfl rfl, tg1 1 rfl rfl, tg5 26 rfl rfl, ⟨by decide, by decide⟩, by decide +kernel, by decide⟩
theorem cvL_X11_heir : CV mX11_heir 9 := ⟨tg5 24 rfl rfl, tg5 25 rfl rfl, _, rfl, rfl⟩
theorem ckL_47 : CK RL 47 mX11_hours 1 := ⟨tg5 91 rfl rfl, tg1 1 rfl rfl, tg5 94 rfl rfl, ⟨by decide, by decide⟩, by decide +kernel, by decide⟩
theorem cvL_X11_hours : CV mX11_hours 9 := ⟨tg5 92 rfl rfl, tg5 93 rfl rfl, _, rfl, rfl⟩
theorem ckL_7 : CK RL 7 mX11_house 0 := ⟨tg3 94 rfl rfl, tg1 1 rfl rfl, tg3 97 rfl rfl, ⟨by decide, by decide⟩, by decide +kernel, by decide⟩
theorem cvL_X11_house : CV mX11_house 9 := ⟨tg3 95 rfl rfl, tg3 96 rfl rfl, _, rfl, rfl⟩
theorem ckL_216 : CK RL 216 mX11_image 0 := ⟨tg3 45 rfl rfl, tg1 1 rfl rfl, tg3 48 rfl rfl, ⟨by decide, by decide⟩, by decide +kernel, by decide⟩
theorem cvL_X11_image : CV mX11_image 9 := ⟨tg3 46 rfl rfl, tg3 47 rfl rfl, _, rfl, rfl⟩
theorem ckL_67 : CK RL 67 mX11_likeliest 2 := ⟨tg5 182 rfl rfl, tg1 1 rfl rfl, tg5 185 rfl rfl, ⟨by decide, by decide⟩, by decide +kernel, by decide⟩
theorem cvL_X11_likeliest : CV mX11_likeliest 9 := ⟨tg5 183 rfl rfl, tg5 184 rfl rfl, _, rfl, rfl⟩
theorem ckL_54 : CK RL 54 mX11_make 1 := ⟨tg5 140 rfl rfl, tg1 1 rfl rfl, tg5 143 rfl rfl, ⟨by decide, by decide⟩, by decide +kernel, by decide⟩
theorem cvL_X11_make : CV mX11_make 9 := ⟨tg5 141 rfl rfl, tg5 142 rfl rfl, _, rfl, rfl⟩
theorem ckL_31 : CK RL 31 mX11_noise 2 := ⟨tg5 40 rfl rfl, tg1 1 rfl rfl, tg5 43 rfl rfl, ⟨by decide, by decide⟩, by decide +kernel, by decide⟩
theorem cvL_X11_noise : CV mX11_noise 9 := ⟨tg5 41 rfl rfl, tg5 42 rfl rfl, _, rfl, rfl⟩
theorem ckL_64 : CK RL 64 mX11_odds 3 := ⟨tg5 165 rfl rfl, tg1 1 rfl rfl, tg5 168 rfl rfl, ⟨by decide, by decide⟩, by decide +kernel, by decide⟩
theorem cvL_X11_odds : CV mX11_odds 9 := ⟨tg5 166 rfl rfl, tg5 167 rfl rfl, _, rfl, rfl⟩
theorem ckL_58 : CK RL 58 mX11_oil 2 := ⟨tg5 147 rfl rfl, tg1 1 rfl rfl, tg5 150 rfl rfl, ⟨by decide, by decide⟩, by decide +kernel, by decide⟩
theorem cvL_X11_oil : CV mX11_oil 9 := ⟨tg5 148 rfl rfl, tg5 149 rfl rfl, _, rfl, rfl⟩
theorem ckL_43 : CK RL 43 mX11_part 3 := ⟨tg5 77 rfl rfl, tg1 1 rfl rfl, tg5 80 rfl rfl, ⟨by decide, by decide⟩, by decide +kernel, by decide⟩
theorem cvL_X11_part : CV mX11_part 9 := ⟨tg5 78 rfl rfl, tg5 79 rfl rfl, _, rfl, rfl⟩
theorem ckL_74 : CK RL 74 mX11_quiet 3 := ⟨tg5 199 rfl rfl, tg1 1 rfl rfl, tg5 202 rfl rfl, ⟨by decide, by decide⟩, by decide +kernel, by decide⟩
theorem cvL_X11_quiet : CV mX11_quiet 9 := ⟨tg5 200 rfl rfl, tg5 201 rfl rfl, _, rfl, rfl⟩
theorem ckL_20 : CK RL 20 mX11_room 2 := ⟨tg4 200 rfl rfl, tg1 1 rfl rfl, tg4 203 rfl rfl, ⟨by decide, by decide⟩, by decide +kernel, by decide⟩
theorem cvL_X11_room : CV mX11_room 9 := ⟨tg4 201 rfl rfl, tg4 202 rfl rfl, _, rfl, rfl⟩
theorem ckL_207 : CK RL 207 mX11_sale 1 := ⟨tg2 214 rfl rfl, tg1 1 rfl rfl, tg2 217 rfl rfl, ⟨by decide, by decide⟩, by decide +kernel, by decide⟩
theorem cvL_X11_sale : CV mX11_sale 9 := ⟨tg2 215 rfl rfl, tg2 216 rfl rfl, _, rfl, rfl⟩
theorem ckL_93 : CK RL 93 mX11_seat 1 := ⟨tg6 56 rfl rfl, tg1 1 rfl rfl, tg6 59 rfl rfl, ⟨by decide, by decide⟩, by decide +kernel, by decide⟩
theorem cvL_X11_seat : CV mX11_seat 9 := ⟨tg6 57 rfl rfl, tg6 58 rfl rfl, _, rfl, rfl⟩
theorem ckL_212 : CK RL 212 mX11_seed 1 := ⟨tg3 41 rfl rfl, tg1 1 rfl rfl, tg3 44 rfl rfl, ⟨by decide, by decide⟩, by decide +kernel, by decide⟩
theorem cvL_X11_seed : CV mX11_seed 9 := ⟨tg3 42 rfl rfl, tg3 43 rfl rfl, _, rfl, rfl⟩
theorem ckL_86 : CK RL 86 mX11_silence 4 := ⟨tg6 37 rfl rfl, tg1 1 rfl rfl, tg6 40 rfl rfl, ⟨by decide, by decide⟩, by decide +kernel, by decide⟩
theorem cvL_X11_silence : CV mX11_silence 9 := ⟨tg6 38 rfl rfl, tg6 39 rfl rfl, _, rfl, rfl⟩
theorem ckL_77 : CK RL 77 mX11_suspects 1 := ⟨tg5 224 rfl rfl, tg1 1 rfl rfl, tg5 227 rfl rfl, ⟨by decide, by decide⟩, by decide +kernel, by decide⟩
theorem cvL_X11_suspects : CV mX11_suspects 9 := ⟨tg5 225 rfl rfl, tg5 226 rfl rfl, _, rfl, rfl⟩
theorem ckL_40 : CK RL 40 mX11_title 2 := ⟨tg5 70 rfl rfl, tg1 1 rfl rfl, tg5 73 rfl rfl, ⟨by decide, by decide⟩, by decide +kernel, by decide⟩
theorem cvL_X11_title : CV mX11_title 9 := ⟨tg5 71 rfl rfl, tg5 72 rfl rfl, _, rfl, rfl⟩
theorem ckL_168 : CK RL 168 mX11_undo 0 := ⟨tg2 189 rfl rfl, tg1 1 rfl rfl, tg2 192 rfl rfl, ⟨by decide, by decide⟩, by decide +kernel, by decide⟩
theorem cvL_X11_undo : CV mX11_undo 9 := ⟨tg2 190 rfl rfl, tg2 191 rfl rfl, _, rfl, rfl⟩
theorem ckL_96 : CK RL 96 mX11_value 1 := ⟨tg6 68 rfl rfl, tg1 1 rfl rfl, tg6 71 rfl rfl, ⟨by decide, by decide⟩, by decide +kernel, by decide⟩
theorem cvL_X11_value : CV mX11_value 9 := ⟨tg6 69 rfl rfl, tg6 70 rfl rfl, _, rfl, rfl⟩
theorem ckL_17 : CK RL 17 mX11_will 0 := ⟨tg4 120 rfl rfl, tg1 1 rfl rfl, tg4 123 rfl rfl, ⟨by decide, by decide⟩, by decide +kernel, by decide⟩
theorem cvL_X11_will : CV mX11_will 9 := ⟨tg4 121 rfl rfl, tg4 122 rfl rfl, _, rfl, rfl⟩
theorem ckL_144 : CK RL 144 mX12_at 2 := ⟨tg7 164 rfl rfl, tg1 11 rfl rfl, tg7 167 rfl rfl, ⟨by decide, by decide⟩, by decide +kernel, by decide⟩
theorem cvL_X12_at : CV mX12_at 10 := ⟨tg7 165 rfl rfl, tg7 166 rfl rfl, _, rfl, rfl⟩
theorem ckL_223 : CK RL 223 mX12_back 0 := ⟨tg6 147 rfl rfl, tg1 11 rfl rfl, tg6 150 rfl rfl, ⟨by decide, by decide⟩, by decide +kernel, by decide⟩
theorem cvL_X12_back : CV mX12_back 10 := ⟨tg6 148 rfl rfl, tg6 149 rfl rfl, _, rfl, rfl⟩
theorem ckL_193 : CK RL 193 mX12_breach 2 := ⟨tg8 51 rfl rfl, tg1 11 rfl rfl, tg8 54 rfl rfl, ⟨by decide, by decide⟩, by decide +kernel, by decide⟩
theorem cvL_X12_breach : CV mX12_breach 10 := ⟨tg8 52 rfl rfl, tg8 53 rfl rfl, _, rfl, rfl⟩
theorem ckL_167 : CK RL 167 mX12_carpet 2 := ⟨tg7 238 rfl rfl, tg1 11 rfl rfl, tg8 1 rfl rfl, ⟨by decide, by decide⟩, by decide +kernel, by decide⟩
theorem cvL_X12_carpet : CV mX12_carpet 10 := ⟨tg7 239 rfl rfl, tg8 0 rfl rfl, _, rfl, rfl⟩
theorem ckL_141 : CK RL 141 mX12_cost 2 := ⟨tg7 160 rfl rfl, tg1 11 rfl rfl, tg7 163 rfl rfl, ⟨by decide, by decide⟩, by decide +kernel, by decide⟩
theorem cvL_X12_cost : CV mX12_cost 10 := ⟨tg7 161 rfl rfl, tg7 162 rfl rfl, _, rfl, rfl⟩
theorem ckL_227 : CK RL 227 mX12_count 1 := ⟨tg8 90 rfl rfl, tg1 11 rfl rfl, tg8 93 rfl rfl, ⟨by decide, by decide⟩, by decide +kernel, by decide⟩
theorem cvL_X12_count : CV mX12_count 10 := ⟨tg8 91 rfl rfl, tg8 92 rfl rfl, _, rfl, rfl⟩
theorem ckL_181 : CK RL 181 mX12_due 2 := ⟨tg8 15 rfl rfl, tg1 11 rfl rfl, tg8 18 rfl rfl, ⟨by decide, by decide⟩, by decide +kernel, by decide⟩
theorem cvL_X12_due : CV mX12_due 10 := ⟨tg8 16 rfl rfl, tg8 17 rfl rfl, _, rfl, rfl⟩
theorem ckL_200 : CK RL 200 mX12_ears 2 := ⟨tg8 66 rfl rfl, tg1 11 rfl rfl, tg8 69 rfl rfl, ⟨by decide, by decide⟩, by decide +kernel, by decide⟩
theorem cvL_X12_ears : CV mX12_ears 10 := ⟨tg8 67 rfl rfl, tg8 68 rfl rfl, _, rfl, rfl⟩
theorem ckL_112 : CK RL 112 mX12_end 1 := ⟨tg6 159 rfl rfl, tg1 11 rfl rfl, tg6 162 rfl rfl, ⟨by decide, by decide⟩, by decide +kernel, by decide⟩
theorem cvL_X12_end : CV mX12_end 10 := ⟨tg6 160 rfl rfl, tg6 161 rfl rfl, _, rfl, rfl⟩
theorem ckL_128 : CK RL 128 mX12_fault 0 := ⟨tg6 163 rfl rfl, tg1 11 rfl rfl, tg6 166 rfl rfl, ⟨by decide, by decide⟩, by decide +kernel, by decide⟩
theorem cvL_X12_fault : CV mX12_fault 10 := ⟨tg6 164 rfl rfl, tg6 165 rfl rfl, _, rfl, rfl⟩
theorem ckL_108 : CK RL 108 mX12_feed 5 := ⟨tg6 155 rfl rfl, tg1 11 rfl rfl, tg6 158 rfl rfl, ⟨by decide, by decide⟩, by decide +kernel, by decide⟩
theorem cvL_X12_feed : CV mX12_feed 10 := ⟨tg6 156 rfl rfl, tg6 157 rfl rfl, _, rfl, rfl⟩
theorem ckL_190 : CK RL 190 mX12_ghost 1 := ⟨tg8 43 rfl rfl, tg1 11 rfl rfl, tg8 46 rfl rfl, ⟨by decide, by decide⟩, by decide +kernel, by decide⟩
theorem cvL_X12_ghost : CV mX12_ghost 10 := ⟨tg8 44 rfl rfl, tg8 45 rfl rfl, _, rfl, rfl⟩
theorem ckL_158 : CK RL 158 mX12_go 2 := ⟨tg7 222 rfl rfl, tg1 11 rfl rfl, tg7 225 rfl rfl, ⟨by decide, by decide⟩, by decide +kernel, by decide⟩
theorem cvL_X12_go : CV mX12_go 10 := ⟨tg7 223 rfl rfl, tg7 224 rfl rfl, _, rfl, rfl⟩
theorem ckL_135 : CK RL 135 mX12_heir 2 := ⟨tg7 140 rfl rfl, tg1 11 rfl rfl, tg7 143 rfl rfl, ⟨by decide, by decide⟩, by decide +kernel, by decide⟩
theorem cvL_X12_heir : CV mX12_heir 10 := ⟨tg7 141 rfl rfl, tg7 142 rfl rfl, _, rfl, rfl⟩
theorem ckL_155 : CK RL 155 mX12_hours 1 := ⟨tg7 197 rfl rfl, tg1 11 rfl rfl, tg7 200 rfl rfl, ⟨by decide, by decide⟩, by decide +kernel, by decide⟩
theorem cvL_X12_hours : CV mX12_hours 10 := ⟨tg7 198 rfl rfl, tg7 199 rfl rfl, _, rfl, rfl⟩
theorem ckL_118 : CK RL 118 mX12_house 0 := ⟨tg6 167 rfl rfl, tg1 11 rfl rfl, tg6 170 rfl rfl, ⟨by decide, by decide⟩, by decide +kernel, by decide⟩
theorem cvL_X12_house : CV mX12_house 10 := ⟨tg6 168 rfl rfl, tg6 169 rfl rfl, _, rfl, rfl⟩
theorem ckL_219 : CK RL 219 mX12_image 0 := ⟨tg6 143 rfl rfl, tg1 11 rfl rfl, tg6 146 rfl rfl, ⟨by decide, by decide⟩, by decide +kernel, by decide⟩
theorem cvL_X12_image : CV mX12_image 10 := ⟨tg6 144 rfl rfl, tg6 145 rfl rfl, _, rfl, rfl⟩
theorem ckL_178 : CK RL 178 mX12_likeliest 2 := ⟨tg8 11 rfl rfl, tg1 11 rfl rfl, tg8 14 rfl rfl, ⟨by decide, by decide⟩, by decide +kernel, by decide⟩
theorem cvL_X12_likeliest : CV mX12_likeliest 10 := ⟨tg8 12 rfl rfl, tg8 13 rfl rfl, _, rfl, rfl⟩
theorem ckL_161 : CK RL 161 mX12_make 1 := ⟨tg7 230 rfl rfl, tg1 11 rfl rfl, tg7 233 rfl rfl, ⟨by decide, by decide⟩, by decide +kernel, by decide⟩
theorem cvL_X12_make : CV mX12_make 10 := ⟨tg7 231 rfl rfl, tg7 232 rfl rfl, _, rfl, rfl⟩
theorem ckL_138 : CK RL 138 mX12_noise 2 := ⟨tg7 152 rfl rfl, tg1 11 rfl rfl, tg7 155 rfl rfl, ⟨by decide, by decide⟩, by decide +kernel, by decide⟩
theorem cvL_X12_noise : CV mX12_noise 10 := ⟨tg7 153 rfl rfl, tg7 154 rfl rfl, _, rfl, rfl⟩
theorem ckL_175 : CK RL 175 mX12_odds 3 := ⟨tg8 2 rfl rfl, tg1 11 rfl rfl, tg8 5 rfl rfl, ⟨by decide, by decide⟩, by decide +kernel, by decide⟩
theorem cvL_X12_odds : CV mX12_odds 10 := ⟨tg8 3 rfl rfl, tg8 4 rfl rfl, _, rfl, rfl⟩
theorem ckL_164 : CK RL 164 mX12_oil 2 := ⟨tg7 234 rfl rfl, tg1 11 rfl rfl, tg7 237 rfl rfl, ⟨by decide, by decide⟩, by decide +kernel, by decide⟩
theorem cvL_X12_oil : CV mX12_oil 10 := ⟨tg7 235 rfl rfl, tg7 236 rfl rfl, _, rfl, rfl⟩
theorem ckL_151 : CK RL 151 mX12_part 3 := ⟨tg7 184 rfl rfl, tg1 11 rfl rfl, tg7 187 rfl rfl, ⟨by decide, by decide⟩, by decide +kernel, by decide⟩
theorem cvL_X12_part : CV mX12_part 10 := ⟨tg7 185 rfl rfl, tg7 186 rfl rfl, _, rfl, rfl⟩
theorem ckL_184 : CK RL 184 mX12_quiet 3 := ⟨tg8 31 rfl rfl, tg1 11 rfl rfl, tg8 34 rfl rfl, ⟨by decide, by decide⟩, by decide +kernel, by decide⟩
theorem cvL_X12_quiet : CV mX12_quiet 10 := ⟨tg8 32 rfl rfl, tg8 33 rfl rfl, _, rfl, rfl⟩
theorem ckL_132 : CK RL 132 mX12_room 2 := ⟨tg7 95 rfl rfl, tg1 11 rfl rfl, tg7 98 rfl rfl, ⟨by decide, by decide⟩, by decide +kernel, by decide⟩
theorem cvL_X12_room : CV mX12_room 10 := ⟨tg7 96 rfl rfl, tg7 97 rfl rfl, _, rfl, rfl⟩
theorem ckL_211 : CK RL 211 mX12_sale 1 := ⟨tg8 82 rfl rfl, tg1 11 rfl rfl, tg8 85 rfl rfl, ⟨by decide, by decide⟩, by decide +kernel, by decide⟩
theorem cvL_X12_sale : CV mX12_sale 10 := ⟨tg8 83 rfl rfl, tg8 84 rfl rfl, _, rfl, rfl⟩
theorem ckL_203 : CK RL 203 mX12_seat 1 := ⟨tg8 70 rfl rfl, tg1 11 rfl rfl, tg8 73 rfl rfl, ⟨by decide, by decide⟩, by decide +kernel, by decide⟩
theorem cvL_X12_seat : CV mX12_seat 10 := ⟨tg8 71 rfl rfl, tg8 72 rfl rfl, _, rfl, rfl⟩
theorem ckL_215 : CK RL 215 mX12_seed 1 := ⟨tg8 86 rfl rfl, tg1 11 rfl rfl, tg8 89 rfl rfl, ⟨by decide, by decide⟩, by decide +kernel, by decide⟩
theorem cvL_X12_seed : CV mX12_seed 10 := ⟨tg8 87 rfl rfl, tg8 88 rfl rfl, _, rfl, rfl⟩
theorem ckL_197 : CK RL 197 mX12_silence 4 := ⟨tg8 59 rfl rfl, tg1 11 rfl rfl, tg8 62 rfl rfl, ⟨by decide, by decide⟩, by decide +kernel, by decide⟩
theorem cvL_X12_silence : CV mX12_silence 10 := ⟨tg8 60 rfl rfl, tg8 61 rfl rfl, _, rfl, rfl⟩
theorem ckL_187 : CK RL 187 mX12_suspects 1 := ⟨tg8 35 rfl rfl, tg1 11 rfl rfl, tg8 38 rfl rfl, ⟨by decide, by decide⟩, by decide +kernel, by decide⟩
theorem cvL_X12_suspects : CV mX12_suspects 10 := ⟨tg8 36 rfl rfl, tg8 37 rfl rfl, _, rfl, rfl⟩
theorem ckL_119 : CK RL 119 mX12_thrown 0 := ⟨tg6 72 rfl rfl, tg1 11 rfl rfl, tg6 75 rfl rfl, ⟨by decide, by decide⟩, by decide +kernel, by decide⟩
theorem cvL_X12_thrown : CV mX12_thrown 10 := ⟨tg6 73 rfl rfl, tg6 74 rfl rfl, _, rfl, rfl⟩
theorem ckL_147 : CK RL 147 mX12_title 2 := ⟨tg7 168 rfl rfl, tg1 11 rfl rfl, tg7 171 rfl rfl, ⟨by decide, by decide⟩, by decide +kernel, by decide⟩
theorem cvL_X12_title : CV mX12_title 10 := ⟨tg7 169 rfl rfl, tg7 170 rfl rfl, _, rfl, rfl⟩
theorem ckL_172 : CK RL 172 mX12_undo 0 := ⟨tg6 151 rfl rfl, tg1 11 rfl rfl, tg6 154 rfl rfl, ⟨by decide, by decide⟩, by decide +kernel, by decide⟩
theorem cvL_X12_undo : CV mX12_undo 10 := ⟨tg6 152 rfl rfl, tg6 153 rfl rfl, _, rfl, rfl⟩
theorem ckL_206 : CK RL 206 mX12_value 1 := ⟨tg8 74 rfl rfl, tg1 11 rfl rfl, tg8 77 rfl rfl, ⟨by decide, by decide⟩, by decide +kernel, by decide⟩
theorem cvL_X12_value : CV mX12_value 10 := ⟨tg8 75 rfl rfl, tg8 76 rfl rfl, _, rfl, rfl⟩
theorem ckL_124 : CK RL 124 mX12_will 0 := ⟨tg7 91 rfl rfl, tg1 11 rfl rfl, tg7 94 rfl rfl, ⟨by decide, by decide⟩, by decide +kernel, by decide⟩
theorem cvL_X12_will : CV mX12_will 10 := ⟨tg7 92 rfl rfl, tg7 93 rfl rfl, _, rfl, rfl⟩
theorem shz0 : shp 0 = (0, 9) := by decide +kernel
theorem shz149 : shp 149 = (0, 10) := by decide +kernel
abbrev mL_house : Mth := (yL_house, cL_house, 3, some .int)
abbrev hL_house : HT := [(0, 8, 11, 13), (0, 8, 14, 15)]
theorem D_L_house {g : Gx}  {I : MI} {L : ML} {res : (String ⊕ Int32) × MI × ML} (h : f_X11_house  I L = some res) {k : Int32} {L1 : ML} (hk : wkI ["java/lang/IllegalArgumentException", "java/lang/UnsupportedOperationException"] res.1 res.2.2 = some (k, L1)) : EntW g 13 mL_house hL_house [.ref 0, .ref 160] (I, L) k (res.2.1, L1) := by
  have hc := C_X11_house (g := g) h
  refine EntW_of (by decide +kernel) (Nat.le_of_ble_eq_true rfl) ?_
  show EG _ _ g 13 1 mL_house 0 [(0, .ref 0), (1, .ref 160)] [] (I, L)
  refine G_aload_n (M := mL_house) 1 rfl dL_house_0 rfl 1 rfl ?_
  refine G_iconst (M := mL_house) (v := 0) 2 rfl dL_house_1 (by decide) ?_
  refine G_aload_n (M := mL_house) 3 rfl dL_house_2 rfl 0 rfl ?_
  rcases hr : res.1 with e9 | v9
  · rw [hr] at hc hk
    simp only [rI, wkI, wkB, wkJ, wkE] at hc hk
    split at hk
    · rename_i he
      cases hk
      subst he
      exact G_callVX (M := mL_house) (As := []) (st := [.int 0, .ref 160]) [] (0, 8, 11, 13) [(0, 8, 14, 15)] rfl dL_house_3 shz0 ckL_7 cvL_X11_house rfl (Nat.le_refl _) (by decide) hc rfl rfl (by decide) (fun z h => nomatch h) (fun z h => by rcases List.mem_cons.mp h with rfl | h; exact ⟨by decide, rfl, rfl⟩; exact nomatch h) (by decide) cle_13 (Or.inl ⟨_, _, dL_house_11, by decide, dL_house_12, by decide, dL_house_13⟩)
    · split at hk
      · rename_i he
        cases hk
        subst he
        exact G_callVX (M := mL_house) (As := []) (st := [.int 0, .ref 160]) [(0, 8, 11, 13)] (0, 8, 14, 15) [] rfl dL_house_3 shz0 ckL_7 cvL_X11_house rfl (Nat.le_refl _) (by decide) hc rfl rfl (by decide) (fun z h => by rcases List.mem_cons.mp h with rfl | h; exact ⟨by decide, "java/lang/IllegalArgumentException", by decide, by decide, cle_13⟩; exact nomatch h) (fun z h => by rcases List.mem_cons.mp h with rfl | h; exact ⟨by decide, rfl, rfl⟩; exact nomatch h) (by decide) cle_15 (Or.inl ⟨_, _, dL_house_14, by decide, dL_house_15, by decide, dL_house_16⟩)
      · cases hk
  · rw [hr] at hc hk
    simp only [rI, wkI, bS] at hc hk
    cases hk
    refine G_cV1 (M := mL_house) (As := []) (st := [.int 0, .ref 160]) 6 rfl dL_house_3 shz0 ckL_7 cvL_X11_house rfl (Nat.le_refl _) (by decide) hc rfl ?_
    refine G_i2l (M := mL_house) 7 rfl dL_house_6 ?_
    refine G_last (M := mL_house) 8 rfl dL_house_7 sh160 inL0 ?_
    refine G_goto (M := mL_house) 17 (by decide) dL_house_8 ?_
    refine G_iconst (M := mL_house) (v := 0) 18 rfl dL_house_17 (by decide) ?_
    exact G_wret rfl dL_house_18
abbrev mL_will : Mth := (yL_will, cL_will, 3, some .int)
abbrev hL_will : HT := [(0, 8, 11, 13)]
theorem D_L_will {g : Gx}  {I : MI} {L : ML} {res : (String ⊕ Int32) × MI × ML} (h : f_X11_will  I L = some res) {k : Int32} {L1 : ML} (hk : wkI ["java/lang/IllegalArgumentException"] res.1 res.2.2 = some (k, L1)) : EntW g 52 mL_will hL_will [.ref 0, .ref 160] (I, L) k (res.2.1, L1) := by
  have hc := C_X11_will (g := g) h
  refine EntW_of (by decide +kernel) (Nat.le_of_ble_eq_true rfl) ?_
  show EG _ _ g 52 1 mL_will 0 [(0, .ref 0), (1, .ref 160)] [] (I, L)
  refine G_aload_n (M := mL_will) 1 rfl dL_will_0 rfl 1 rfl ?_
  refine G_iconst (M := mL_will) (v := 0) 2 rfl dL_will_1 (by decide) ?_
  refine G_aload_n (M := mL_will) 3 rfl dL_will_2 rfl 0 rfl ?_
  rcases hr : res.1 with e9 | v9
  · rw [hr] at hc hk
    simp only [rI, wkI, wkB, wkJ, wkE] at hc hk
    split at hk
    · rename_i he
      cases hk
      subst he
      exact G_callVX (M := mL_will) (As := []) (st := [.int 0, .ref 160]) [] (0, 8, 11, 13) [] rfl dL_will_3 shz0 ckL_17 cvL_X11_will rfl (Nat.le_refl _) (by decide) hc rfl rfl (by decide) (fun z h => nomatch h) (fun z h => by rcases List.mem_cons.mp h with rfl | h; exact ⟨by decide, rfl, rfl⟩; exact nomatch h) (by decide) cle_13 (Or.inl ⟨_, _, dL_will_11, by decide, dL_will_12, by decide, dL_will_13⟩)
    · cases hk
  · rw [hr] at hc hk
    simp only [rI, wkI, bS] at hc hk
    cases hk
    refine G_cV1 (M := mL_will) (As := []) (st := [.int 0, .ref 160]) 6 rfl dL_will_3 shz0 ckL_17 cvL_X11_will rfl (Nat.le_refl _) (by decide) hc rfl ?_
    refine G_i2l (M := mL_will) 7 rfl dL_will_6 ?_
    refine G_last (M := mL_will) 8 rfl dL_will_7 sh160 inL0 ?_
    refine G_goto (M := mL_will) 14 (by decide) dL_will_8 ?_
    refine G_iconst (M := mL_will) (v := 0) 15 rfl dL_will_14 (by decide) ?_
    exact G_wret rfl dL_will_15
abbrev mL_room : Mth := (yL_room, cL_room, 5, some .int)
abbrev hL_room : HT := [(0, 10, 13, 24), (0, 10, 17, 26)]
theorem D_L_room {g : Gx} {x1 : Int32} {x2 : Int32} {I : MI} {L : ML} {res : (String ⊕ Int32) × MI × ML} (h : f_X11_room x1 x2 I L = some res) {k : Int32} {L1 : ML} (hk : wkI ["java/lang/IndexOutOfBoundsException", "java/util/NoSuchElementException"] res.1 res.2.2 = some (k, L1)) : EntW g 9 mL_room hL_room [.ref 0, .int x1, .int x2, .ref 160] (I, L) k (res.2.1, L1) := by
  have hc := C_X11_room (g := g) h
  refine EntW_of (by decide +kernel) (Nat.le_of_ble_eq_true rfl) ?_
  show EG _ _ g 9 1 mL_room 0 [(0, .ref 0), (1, .int x1), (2, .int x2), (3, .ref 160)] [] (I, L)
  refine G_aload_n (M := mL_room) 1 rfl dL_room_0 rfl 3 rfl ?_
  refine G_iconst (M := mL_room) (v := 0) 2 rfl dL_room_1 (by decide) ?_
  refine G_aload_n (M := mL_room) 3 rfl dL_room_2 rfl 0 rfl ?_
  refine G_iload_n (M := mL_room) 4 rfl dL_room_3 rfl 1 rfl ?_
  refine G_iload_n (M := mL_room) 5 rfl dL_room_4 rfl 2 rfl ?_
  rcases hr : res.1 with e9 | v9
  · rw [hr] at hc hk
    simp only [rI, wkI, wkB, wkJ, wkE] at hc hk
    split at hk
    · rename_i he
      cases hk
      subst he
      exact G_callVX (M := mL_room) (As := [.int x1, .int x2]) (st := [.int 0, .ref 160]) [] (0, 10, 13, 24) [(0, 10, 17, 26)] rfl dL_room_5 shz0 ckL_20 cvL_X11_room rfl (Nat.le_refl _) (by decide) hc rfl rfl (by decide) (fun z h => nomatch h) (fun z h => by rcases List.mem_cons.mp h with rfl | h; exact ⟨by decide, rfl, rfl⟩; exact nomatch h) (by decide) cle_24 (Or.inr ⟨_, _, dL_room_13, by decide, dL_room_15, by decide, dL_room_16⟩)
    · split at hk
      · rename_i he
        cases hk
        subst he
        exact G_callVX (M := mL_room) (As := [.int x1, .int x2]) (st := [.int 0, .ref 160]) [(0, 10, 13, 24)] (0, 10, 17, 26) [] rfl dL_room_5 shz0 ckL_20 cvL_X11_room rfl (Nat.le_refl _) (by decide) hc rfl rfl (by decide) (fun z h => by rcases List.mem_cons.mp h with rfl | h; exact ⟨by decide, "java/lang/IndexOutOfBoundsException", by decide, by decide, cle_24⟩; exact nomatch h) (fun z h => by rcases List.mem_cons.mp h with rfl | h; exact ⟨by decide, rfl, rfl⟩; exact nomatch h) (by decide) cle_26 (Or.inr ⟨_, _, dL_room_17, by decide, dL_room_19, by decide, dL_room_20⟩)
      · cases hk
  · rw [hr] at hc hk
    simp only [rI, wkI, bS] at hc hk
    cases hk
    refine G_cV1 (M := mL_room) (As := [.int x1, .int x2]) (st := [.int 0, .ref 160]) 8 rfl dL_room_5 shz0 ckL_20 cvL_X11_room rfl (Nat.le_refl _) (by decide) hc rfl ?_
    refine G_i2l (M := mL_room) 9 rfl dL_room_8 ?_
    refine G_last (M := mL_room) 10 rfl dL_room_9 sh160 inL0 ?_
    refine G_goto (M := mL_room) 21 (by decide) dL_room_10 ?_
    refine G_iconst (M := mL_room) (v := 0) 22 rfl dL_room_21 (by decide) ?_
    exact G_wret rfl dL_room_22
abbrev mL_heir : Mth := (yL_heir, cL_heir, 5, some .int)
abbrev hL_heir : HT := [(0, 10, 13, 24), (0, 10, 17, 26)]
theorem D_L_heir {g : Gx} {x1 : Int32} {x2 : Int32} {I : MI} {L : ML} {res : (String ⊕ Int32) × MI × ML} (h : f_X11_heir x1 x2 I L = some res) {k : Int32} {L1 : ML} (hk : wkI ["java/lang/IndexOutOfBoundsException", "java/util/NoSuchElementException"] res.1 res.2.2 = some (k, L1)) : EntW g 9 mL_heir hL_heir [.ref 0, .int x1, .int x2, .ref 160] (I, L) k (res.2.1, L1) := by
  have hc := C_X11_heir (g := g) h
  refine EntW_of (by decide +kernel) (Nat.le_of_ble_eq_true rfl) ?_
  show EG _ _ g 9 1 mL_heir 0 [(0, .ref 0), (1, .int x1), (2, .int x2), (3, .ref 160)] [] (I, L)
  refine G_aload_n (M := mL_heir) 1 rfl dL_heir_0 rfl 3 rfl ?_
  refine G_iconst (M := mL_heir) (v := 0) 2 rfl dL_heir_1 (by decide) ?_
  refine G_aload_n (M := mL_heir) 3 rfl dL_heir_2 rfl 0 rfl ?_
  refine G_iload_n (M := mL_heir) 4 rfl dL_heir_3 rfl 1 rfl ?_
  refine G_iload_n (M := mL_heir) 5 rfl dL_heir_4 rfl 2 rfl ?_
  rcases hr : res.1 with e9 | v9
  · rw [hr] at hc hk
    simp only [rI, wkI, wkB, wkJ, wkE] at hc hk
    split at hk
    · rename_i he
      cases hk
      subst he
      exact G_callVX (M := mL_heir) (As := [.int x1, .int x2]) (st := [.int 0, .ref 160]) [] (0, 10, 13, 24) [(0, 10, 17, 26)] rfl dL_heir_5 shz0 ckL_28 cvL_X11_heir rfl (Nat.le_refl _) (by decide) hc rfl rfl (by decide) (fun z h => nomatch h) (fun z h => by rcases List.mem_cons.mp h with rfl | h; exact ⟨by decide, rfl, rfl⟩; exact nomatch h) (by decide) cle_24 (Or.inr ⟨_, _, dL_heir_13, by decide, dL_heir_15, by decide, dL_heir_16⟩)
    · split at hk
      · rename_i he
        cases hk
        subst he
        exact G_callVX (M := mL_heir) (As := [.int x1, .int x2]) (st := [.int 0, .ref 160]) [(0, 10, 13, 24)] (0, 10, 17, 26) [] rfl dL_heir_5 shz0 ckL_28 cvL_X11_heir rfl (Nat.le_refl _) (by decide) hc rfl rfl (by decide) (fun z h => by rcases List.mem_cons.mp h with rfl | h; exact ⟨by decide, "java/lang/IndexOutOfBoundsException", by decide, by decide, cle_24⟩; exact nomatch h) (fun z h => by rcases List.mem_cons.mp h with rfl | h; exact ⟨by decide, rfl, rfl⟩; exact nomatch h) (by decide) cle_26 (Or.inr ⟨_, _, dL_heir_17, by decide, dL_heir_19, by decide, dL_heir_20⟩)
      · cases hk
  · rw [hr] at hc hk
    simp only [rI, wkI, bS] at hc hk
    cases hk
    refine G_cV1 (M := mL_heir) (As := [.int x1, .int x2]) (st := [.int 0, .ref 160]) 8 rfl dL_heir_5 shz0 ckL_28 cvL_X11_heir rfl (Nat.le_refl _) (by decide) hc rfl ?_
    refine G_i2l (M := mL_heir) 9 rfl dL_heir_8 ?_
    refine G_last (M := mL_heir) 10 rfl dL_heir_9 sh160 inL0 ?_
    refine G_goto (M := mL_heir) 21 (by decide) dL_heir_10 ?_
    refine G_iconst (M := mL_heir) (v := 0) 22 rfl dL_heir_21 (by decide) ?_
    exact G_wret rfl dL_heir_22
abbrev mL_noise : Mth := (yL_noise, cL_noise, 5, some .int)
abbrev hL_noise : HT := [(0, 10, 13, 24), (0, 10, 17, 26)]
theorem D_L_noise {g : Gx} {x1 : Int32} {x2 : Int32} {I : MI} {L : ML} {res : (String ⊕ Int32) × MI × ML} (h : f_X11_noise x1 x2 I L = some res) {k : Int32} {L1 : ML} (hk : wkI ["java/lang/IndexOutOfBoundsException", "java/util/NoSuchElementException"] res.1 res.2.2 = some (k, L1)) : EntW g 8 mL_noise hL_noise [.ref 0, .int x1, .int x2, .ref 160] (I, L) k (res.2.1, L1) := by
  have hc := C_X11_noise (g := g) h
  refine EntW_of (by decide +kernel) (Nat.le_of_ble_eq_true rfl) ?_
  show EG _ _ g 8 1 mL_noise 0 [(0, .ref 0), (1, .int x1), (2, .int x2), (3, .ref 160)] [] (I, L)
  refine G_aload_n (M := mL_noise) 1 rfl dL_noise_0 rfl 3 rfl ?_
  refine G_iconst (M := mL_noise) (v := 0) 2 rfl dL_noise_1 (by decide) ?_
  refine G_aload_n (M := mL_noise) 3 rfl dL_noise_2 rfl 0 rfl ?_
  refine G_iload_n (M := mL_noise) 4 rfl dL_noise_3 rfl 1 rfl ?_
  refine G_iload_n (M := mL_noise) 5 rfl dL_noise_4 rfl 2 rfl ?_
  rcases hr : res.1 with e9 | v9
  · rw [hr] at hc hk
    simp only [rI, wkI, wkB, wkJ, wkE] at hc hk
    split at hk
    · rename_i he
      cases hk
      subst he
      exact G_callVX (M := mL_noise) (As := [.int x1, .int x2]) (st := [.int 0, .ref 160]) [] (0, 10, 13, 24) [(0, 10, 17, 26)] rfl dL_noise_5 shz0 ckL_31 cvL_X11_noise rfl (Nat.le_refl _) (by decide) hc rfl rfl (by decide) (fun z h => nomatch h) (fun z h => by rcases List.mem_cons.mp h with rfl | h; exact ⟨by decide, rfl, rfl⟩; exact nomatch h) (by decide) cle_24 (Or.inr ⟨_, _, dL_noise_13, by decide, dL_noise_15, by decide, dL_noise_16⟩)
    · split at hk
      · rename_i he
        cases hk
        subst he
        exact G_callVX (M := mL_noise) (As := [.int x1, .int x2]) (st := [.int 0, .ref 160]) [(0, 10, 13, 24)] (0, 10, 17, 26) [] rfl dL_noise_5 shz0 ckL_31 cvL_X11_noise rfl (Nat.le_refl _) (by decide) hc rfl rfl (by decide) (fun z h => by rcases List.mem_cons.mp h with rfl | h; exact ⟨by decide, "java/lang/IndexOutOfBoundsException", by decide, by decide, cle_24⟩; exact nomatch h) (fun z h => by rcases List.mem_cons.mp h with rfl | h; exact ⟨by decide, rfl, rfl⟩; exact nomatch h) (by decide) cle_26 (Or.inr ⟨_, _, dL_noise_17, by decide, dL_noise_19, by decide, dL_noise_20⟩)
      · cases hk
  · rw [hr] at hc hk
    simp only [rI, wkI, bS] at hc hk
    cases hk
    refine G_cV1 (M := mL_noise) (As := [.int x1, .int x2]) (st := [.int 0, .ref 160]) 8 rfl dL_noise_5 shz0 ckL_31 cvL_X11_noise rfl (Nat.le_refl _) (by decide) hc rfl ?_
    refine G_i2l (M := mL_noise) 9 rfl dL_noise_8 ?_
    refine G_last (M := mL_noise) 10 rfl dL_noise_9 sh160 inL0 ?_
    refine G_goto (M := mL_noise) 21 (by decide) dL_noise_10 ?_
    refine G_iconst (M := mL_noise) (v := 0) 22 rfl dL_noise_21 (by decide) ?_
    exact G_wret rfl dL_noise_22
abbrev mL_cost : Mth := (yL_cost, cL_cost, 5, some .int)
abbrev hL_cost : HT := [(0, 10, 13, 24)]
theorem D_L_cost {g : Gx} {x1 : Int32} {x2 : Int32} {I : MI} {L : ML} {res : (String ⊕ Int32) × MI × ML} (h : f_X11_cost x1 x2 I L = some res) {k : Int32} {L1 : ML} (hk : wkI ["java/lang/IndexOutOfBoundsException"] res.1 res.2.2 = some (k, L1)) : EntW g 8 mL_cost hL_cost [.ref 0, .int x1, .int x2, .ref 160] (I, L) k (res.2.1, L1) := by
  have hc := C_X11_cost (g := g) h
  refine EntW_of (by decide +kernel) (Nat.le_of_ble_eq_true rfl) ?_
  show EG _ _ g 8 1 mL_cost 0 [(0, .ref 0), (1, .int x1), (2, .int x2), (3, .ref 160)] [] (I, L)
  refine G_aload_n (M := mL_cost) 1 rfl dL_cost_0 rfl 3 rfl ?_
  refine G_iconst (M := mL_cost) (v := 0) 2 rfl dL_cost_1 (by decide) ?_
  refine G_aload_n (M := mL_cost) 3 rfl dL_cost_2 rfl 0 rfl ?_
  refine G_iload_n (M := mL_cost) 4 rfl dL_cost_3 rfl 1 rfl ?_
  refine G_iload_n (M := mL_cost) 5 rfl dL_cost_4 rfl 2 rfl ?_
  rcases hr : res.1 with e9 | v9
  · rw [hr] at hc hk
    simp only [rI, wkI, wkB, wkJ, wkE] at hc hk
    split at hk
    · rename_i he
      cases hk
      subst he
      exact G_callVX (M := mL_cost) (As := [.int x1, .int x2]) (st := [.int 0, .ref 160]) [] (0, 10, 13, 24) [] rfl dL_cost_5 shz0 ckL_34 cvL_X11_cost rfl (Nat.le_refl _) (by decide) hc rfl rfl (by decide) (fun z h => nomatch h) (fun z h => by rcases List.mem_cons.mp h with rfl | h; exact ⟨by decide, rfl, rfl⟩; exact nomatch h) (by decide) cle_24 (Or.inr ⟨_, _, dL_cost_13, by decide, dL_cost_15, by decide, dL_cost_16⟩)
    · cases hk
  · rw [hr] at hc hk
    simp only [rI, wkI, bS] at hc hk
    cases hk
    refine G_cV1 (M := mL_cost) (As := [.int x1, .int x2]) (st := [.int 0, .ref 160]) 8 rfl dL_cost_5 shz0 ckL_34 cvL_X11_cost rfl (Nat.le_refl _) (by decide) hc rfl ?_
    refine G_i2l (M := mL_cost) 9 rfl dL_cost_8 ?_
    refine G_last (M := mL_cost) 10 rfl dL_cost_9 sh160 inL0 ?_
    refine G_goto (M := mL_cost) 17 (by decide) dL_cost_10 ?_
    refine G_iconst (M := mL_cost) (v := 0) 18 rfl dL_cost_17 (by decide) ?_
    exact G_wret rfl dL_cost_18
abbrev mL_at : Mth := (yL_at, cL_at, 5, some .int)
abbrev hL_at : HT := [(0, 10, 13, 24)]
theorem D_L_at {g : Gx} {x1 : Int32} {x2 : Int32} {I : MI} {L : ML} {res : (String ⊕ Int32) × MI × ML} (h : f_X11_at x1 x2 I L = some res) {k : Int32} {L1 : ML} (hk : wkI ["java/lang/IndexOutOfBoundsException"] res.1 res.2.2 = some (k, L1)) : EntW g 8 mL_at hL_at [.ref 0, .int x1, .int x2, .ref 160] (I, L) k (res.2.1, L1) := by
  have hc := C_X11_at (g := g) h
  refine EntW_of (by decide +kernel) (Nat.le_of_ble_eq_true rfl) ?_
  show EG _ _ g 8 1 mL_at 0 [(0, .ref 0), (1, .int x1), (2, .int x2), (3, .ref 160)] [] (I, L)
  refine G_aload_n (M := mL_at) 1 rfl dL_at_0 rfl 3 rfl ?_
  refine G_iconst (M := mL_at) (v := 0) 2 rfl dL_at_1 (by decide) ?_
  refine G_aload_n (M := mL_at) 3 rfl dL_at_2 rfl 0 rfl ?_
  refine G_iload_n (M := mL_at) 4 rfl dL_at_3 rfl 1 rfl ?_
  refine G_iload_n (M := mL_at) 5 rfl dL_at_4 rfl 2 rfl ?_
  rcases hr : res.1 with e9 | v9
  · rw [hr] at hc hk
    simp only [rI, wkI, wkB, wkJ, wkE] at hc hk
    split at hk
    · rename_i he
      cases hk
      subst he
      exact G_callVX (M := mL_at) (As := [.int x1, .int x2]) (st := [.int 0, .ref 160]) [] (0, 10, 13, 24) [] rfl dL_at_5 shz0 ckL_37 cvL_X11_at rfl (Nat.le_refl _) (by decide) hc rfl rfl (by decide) (fun z h => nomatch h) (fun z h => by rcases List.mem_cons.mp h with rfl | h; exact ⟨by decide, rfl, rfl⟩; exact nomatch h) (by decide) cle_24 (Or.inr ⟨_, _, dL_at_13, by decide, dL_at_15, by decide, dL_at_16⟩)
    · cases hk
  · rw [hr] at hc hk
    simp only [rI, wkI, bS] at hc hk
    cases hk
    refine G_cV1 (M := mL_at) (As := [.int x1, .int x2]) (st := [.int 0, .ref 160]) 8 rfl dL_at_5 shz0 ckL_37 cvL_X11_at rfl (Nat.le_refl _) (by decide) hc rfl ?_
    refine G_i2l (M := mL_at) 9 rfl dL_at_8 ?_
    refine G_last (M := mL_at) 10 rfl dL_at_9 sh160 inL0 ?_
    refine G_goto (M := mL_at) 17 (by decide) dL_at_10 ?_
    refine G_iconst (M := mL_at) (v := 0) 18 rfl dL_at_17 (by decide) ?_
    exact G_wret rfl dL_at_18
abbrev mL_title : Mth := (yL_title, cL_title, 5, some .int)
abbrev hL_title : HT := [(0, 10, 13, 24)]
theorem D_L_title {g : Gx} {x1 : Int32} {x2 : Int32} {I : MI} {L : ML} {res : (String ⊕ Int32) × MI × ML} (h : f_X11_title x1 x2 I L = some res) {k : Int32} {L1 : ML} (hk : wkI ["java/lang/IndexOutOfBoundsException"] res.1 res.2.2 = some (k, L1)) : EntW g 9 mL_title hL_title [.ref 0, .int x1, .int x2, .ref 160] (I, L) k (res.2.1, L1) := by
  have hc := C_X11_title (g := g) h
  refine EntW_of (by decide +kernel) (Nat.le_of_ble_eq_true rfl) ?_
  show EG _ _ g 9 1 mL_title 0 [(0, .ref 0), (1, .int x1), (2, .int x2), (3, .ref 160)] [] (I, L)
  refine G_aload_n (M := mL_title) 1 rfl dL_title_0 rfl 3 rfl ?_
  refine G_iconst (M := mL_title) (v := 0) 2 rfl dL_title_1 (by decide) ?_
  refine G_aload_n (M := mL_title) 3 rfl dL_title_2 rfl 0 rfl ?_
  refine G_iload_n (M := mL_title) 4 rfl dL_title_3 rfl 1 rfl ?_
  refine G_iload_n (M := mL_title) 5 rfl dL_title_4 rfl 2 rfl ?_
  rcases hr : res.1 with e9 | v9
  · rw [hr] at hc hk
    simp only [rI, wkI, wkB, wkJ, wkE] at hc hk
    split at hk
    · rename_i he
      cases hk
      subst he
      exact G_callVX (M := mL_title) (As := [.int x1, .int x2]) (st := [.int 0, .ref 160]) [] (0, 10, 13, 24) [] rfl dL_title_5 shz0 ckL_40 cvL_X11_title rfl (Nat.le_refl _) (by decide) hc rfl rfl (by decide) (fun z h => nomatch h) (fun z h => by rcases List.mem_cons.mp h with rfl | h; exact ⟨by decide, rfl, rfl⟩; exact nomatch h) (by decide) cle_24 (Or.inr ⟨_, _, dL_title_13, by decide, dL_title_15, by decide, dL_title_16⟩)
    · cases hk
  · rw [hr] at hc hk
    simp only [rI, wkI, bS] at hc hk
    cases hk
    refine G_cV1 (M := mL_title) (As := [.int x1, .int x2]) (st := [.int 0, .ref 160]) 8 rfl dL_title_5 shz0 ckL_40 cvL_X11_title rfl (Nat.le_refl _) (by decide) hc rfl ?_
    refine G_i2l (M := mL_title) 9 rfl dL_title_8 ?_
    refine G_last (M := mL_title) 10 rfl dL_title_9 sh160 inL0 ?_
    refine G_goto (M := mL_title) 17 (by decide) dL_title_10 ?_
    refine G_iconst (M := mL_title) (v := 0) 18 rfl dL_title_17 (by decide) ?_
    exact G_wret rfl dL_title_18
abbrev mL_part : Mth := (yL_part, cL_part, 6, some .int)
abbrev hL_part : HT := [(0, 12, 15, 24), (0, 12, 19, 13)]
theorem D_L_part {g : Gx} {x1 : Int32} {x2 : Int32} {x3 : Int32} {I : MI} {L : ML} {res : (String ⊕ Int32) × MI × ML} (h : f_X11_part x1 x2 x3 I L = some res) {k : Int32} {L1 : ML} (hk : wkI ["java/lang/IndexOutOfBoundsException", "java/lang/IllegalArgumentException"] res.1 res.2.2 = some (k, L1)) : EntW g 9 mL_part hL_part [.ref 0, .int x1, .int x2, .int x3, .ref 160] (I, L) k (res.2.1, L1) := by
  have hc := C_X11_part (g := g) h
  refine EntW_of (by decide +kernel) (Nat.le_of_ble_eq_true rfl) ?_
  show EG _ _ g 9 1 mL_part 0 [(0, .ref 0), (1, .int x1), (2, .int x2), (3, .int x3), (4, .ref 160)] [] (I, L)
  refine G_aload (M := mL_part) 2 rfl dL_part_0 4 rfl ?_
  refine G_iconst (M := mL_part) (v := 0) 3 rfl dL_part_2 (by decide) ?_
  refine G_aload_n (M := mL_part) 4 rfl dL_part_3 rfl 0 rfl ?_
  refine G_iload_n (M := mL_part) 5 rfl dL_part_4 rfl 1 rfl ?_
  refine G_iload_n (M := mL_part) 6 rfl dL_part_5 rfl 2 rfl ?_
  refine G_iload_n (M := mL_part) 7 rfl dL_part_6 rfl 3 rfl ?_
  rcases hr : res.1 with e9 | v9
  · rw [hr] at hc hk
    simp only [rI, wkI, wkB, wkJ, wkE] at hc hk
    split at hk
    · rename_i he
      cases hk
      subst he
      exact G_callVX (M := mL_part) (As := [.int x1, .int x2, .int x3]) (st := [.int 0, .ref 160]) [] (0, 12, 15, 24) [(0, 12, 19, 13)] rfl dL_part_7 shz0 ckL_43 cvL_X11_part rfl (Nat.le_refl _) (by decide) hc rfl rfl (by decide) (fun z h => nomatch h) (fun z h => by rcases List.mem_cons.mp h with rfl | h; exact ⟨by decide, rfl, rfl⟩; exact nomatch h) (by decide) cle_24 (Or.inr ⟨_, _, dL_part_15, by decide, dL_part_17, by decide, dL_part_18⟩)
    · split at hk
      · rename_i he
        cases hk
        subst he
        exact G_callVX (M := mL_part) (As := [.int x1, .int x2, .int x3]) (st := [.int 0, .ref 160]) [(0, 12, 15, 24)] (0, 12, 19, 13) [] rfl dL_part_7 shz0 ckL_43 cvL_X11_part rfl (Nat.le_refl _) (by decide) hc rfl rfl (by decide) (fun z h => by rcases List.mem_cons.mp h with rfl | h; exact ⟨by decide, "java/lang/IndexOutOfBoundsException", by decide, by decide, cle_24⟩; exact nomatch h) (fun z h => by rcases List.mem_cons.mp h with rfl | h; exact ⟨by decide, rfl, rfl⟩; exact nomatch h) (by decide) cle_13 (Or.inr ⟨_, _, dL_part_19, by decide, dL_part_21, by decide, dL_part_22⟩)
      · cases hk
  · rw [hr] at hc hk
    simp only [rI, wkI, bS] at hc hk
    cases hk
    refine G_cV1 (M := mL_part) (As := [.int x1, .int x2, .int x3]) (st := [.int 0, .ref 160]) 10 rfl dL_part_7 shz0 ckL_43 cvL_X11_part rfl (Nat.le_refl _) (by decide) hc rfl ?_
    refine G_i2l (M := mL_part) 11 rfl dL_part_10 ?_
    refine G_last (M := mL_part) 12 rfl dL_part_11 sh160 inL0 ?_
    refine G_goto (M := mL_part) 23 (by decide) dL_part_12 ?_
    refine G_iconst (M := mL_part) (v := 0) 24 rfl dL_part_23 (by decide) ?_
    exact G_wret rfl dL_part_24
abbrev mL_hours : Mth := (yL_hours, cL_hours, 4, some .int)
abbrev hL_hours : HT := [(0, 9, 12, 13)]
theorem D_L_hours {g : Gx} {x1 : Int32} {I : MI} {L : ML} {res : (String ⊕ Int32) × MI × ML} (h : f_X11_hours x1 I L = some res) {k : Int32} {L1 : ML} (hk : wkI ["java/lang/IllegalArgumentException"] res.1 res.2.2 = some (k, L1)) : EntW g 11 mL_hours hL_hours [.ref 0, .int x1, .ref 160] (I, L) k (res.2.1, L1) := by
  have hc := C_X11_hours (g := g) h
  refine EntW_of (by decide +kernel) (Nat.le_of_ble_eq_true rfl) ?_
  show EG _ _ g 11 1 mL_hours 0 [(0, .ref 0), (1, .int x1), (2, .ref 160)] [] (I, L)
  refine G_aload_n (M := mL_hours) 1 rfl dL_hours_0 rfl 2 rfl ?_
  refine G_iconst (M := mL_hours) (v := 0) 2 rfl dL_hours_1 (by decide) ?_
  refine G_aload_n (M := mL_hours) 3 rfl dL_hours_2 rfl 0 rfl ?_
  refine G_iload_n (M := mL_hours) 4 rfl dL_hours_3 rfl 1 rfl ?_
  rcases hr : res.1 with e9 | v9
  · rw [hr] at hc hk
    simp only [rI, wkI, wkB, wkJ, wkE] at hc hk
    split at hk
    · rename_i he
      cases hk
      subst he
      exact G_callVX (M := mL_hours) (As := [.int x1]) (st := [.int 0, .ref 160]) [] (0, 9, 12, 13) [] rfl dL_hours_4 shz0 ckL_47 cvL_X11_hours rfl (Nat.le_refl _) (by decide) hc rfl rfl (by decide) (fun z h => nomatch h) (fun z h => by rcases List.mem_cons.mp h with rfl | h; exact ⟨by decide, rfl, rfl⟩; exact nomatch h) (by decide) cle_13 (Or.inl ⟨_, _, dL_hours_12, by decide, dL_hours_13, by decide, dL_hours_14⟩)
    · cases hk
  · rw [hr] at hc hk
    simp only [rI, wkI, bS] at hc hk
    cases hk
    refine G_cV1 (M := mL_hours) (As := [.int x1]) (st := [.int 0, .ref 160]) 7 rfl dL_hours_4 shz0 ckL_47 cvL_X11_hours rfl (Nat.le_refl _) (by decide) hc rfl ?_
    refine G_i2l (M := mL_hours) 8 rfl dL_hours_7 ?_
    refine G_last (M := mL_hours) 9 rfl dL_hours_8 sh160 inL0 ?_
    refine G_goto (M := mL_hours) 15 (by decide) dL_hours_9 ?_
    refine G_iconst (M := mL_hours) (v := 0) 16 rfl dL_hours_15 (by decide) ?_
    exact G_wret rfl dL_hours_16
abbrev mL_go : Mth := (yL_go, cL_go, 5, some .int)
abbrev hL_go : HT := [(0, 10, 13, 24)]
theorem D_L_go {g : Gx} {x1 : Int32} {x2 : Int32} {I : MI} {L : ML} {res : (String ⊕ Int32) × MI × ML} (h : f_X11_go x1 x2 I L = some res) {k : Int32} {L1 : ML} (hk : wkI ["java/lang/IndexOutOfBoundsException"] res.1 res.2.2 = some (k, L1)) : EntW g 8 mL_go hL_go [.ref 0, .int x1, .int x2, .ref 160] (I, L) k (res.2.1, L1) := by
  have hc := C_X11_go (g := g) h
  refine EntW_of (by decide +kernel) (Nat.le_of_ble_eq_true rfl) ?_
  show EG _ _ g 8 1 mL_go 0 [(0, .ref 0), (1, .int x1), (2, .int x2), (3, .ref 160)] [] (I, L)
  refine G_aload_n (M := mL_go) 1 rfl dL_go_0 rfl 3 rfl ?_
  refine G_iconst (M := mL_go) (v := 0) 2 rfl dL_go_1 (by decide) ?_
  refine G_aload_n (M := mL_go) 3 rfl dL_go_2 rfl 0 rfl ?_
  refine G_iload_n (M := mL_go) 4 rfl dL_go_3 rfl 1 rfl ?_
  refine G_iload_n (M := mL_go) 5 rfl dL_go_4 rfl 2 rfl ?_
  rcases hr : res.1 with e9 | v9
  · rw [hr] at hc hk
    simp only [rI, wkI, wkB, wkJ, wkE] at hc hk
    split at hk
    · rename_i he
      cases hk
      subst he
      exact G_callVX (M := mL_go) (As := [.int x1, .int x2]) (st := [.int 0, .ref 160]) [] (0, 10, 13, 24) [] rfl dL_go_5 shz0 ckL_51 cvL_X11_go rfl (Nat.le_refl _) (by decide) hc rfl rfl (by decide) (fun z h => nomatch h) (fun z h => by rcases List.mem_cons.mp h with rfl | h; exact ⟨by decide, rfl, rfl⟩; exact nomatch h) (by decide) cle_24 (Or.inr ⟨_, _, dL_go_13, by decide, dL_go_15, by decide, dL_go_16⟩)
    · cases hk
  · rw [hr] at hc hk
    simp only [rI, wkI, bS] at hc hk
    cases hk
    refine G_cV1 (M := mL_go) (As := [.int x1, .int x2]) (st := [.int 0, .ref 160]) 8 rfl dL_go_5 shz0 ckL_51 cvL_X11_go rfl (Nat.le_refl _) (by decide) hc rfl ?_
    refine G_i2l (M := mL_go) 9 rfl dL_go_8 ?_
    refine G_last (M := mL_go) 10 rfl dL_go_9 sh160 inL0 ?_
    refine G_goto (M := mL_go) 17 (by decide) dL_go_10 ?_
    refine G_iconst (M := mL_go) (v := 0) 18 rfl dL_go_17 (by decide) ?_
    exact G_wret rfl dL_go_18
abbrev mL_make : Mth := (yL_make, cL_make, 4, some .int)
abbrev hL_make : HT := [(0, 16, 19, 24), (0, 16, 22, 13)]
theorem D_L_make {g : Gx} {x1 : Int32} {I : MI} {L : ML} {res : (String ⊕ Bool) × MI × ML} (h : f_X11_make x1 I L = some res) {k : Int32} {L1 : ML} (hk : wkB ["java/lang/IndexOutOfBoundsException", "java/lang/IllegalArgumentException"] res.1 res.2.2 = some (k, L1)) : EntW g 8 mL_make hL_make [.ref 0, .int x1, .ref 160] (I, L) k (res.2.1, L1) := by
  have hc := C_X11_make (g := g) h
  refine EntW_of (by decide +kernel) (Nat.le_of_ble_eq_true rfl) ?_
  show EG _ _ g 8 1 mL_make 0 [(0, .ref 0), (1, .int x1), (2, .ref 160)] [] (I, L)
  refine G_aload_n (M := mL_make) 1 rfl dL_make_0 rfl 2 rfl ?_
  refine G_iconst (M := mL_make) (v := 0) 2 rfl dL_make_1 (by decide) ?_
  refine G_aload_n (M := mL_make) 3 rfl dL_make_2 rfl 0 rfl ?_
  refine G_iload_n (M := mL_make) 4 rfl dL_make_3 rfl 1 rfl ?_
  rcases hr : res.1 with e9 | v9
  · rw [hr] at hc hk
    simp only [rB, wkI, wkB, wkJ, wkE] at hc hk
    split at hk
    · rename_i he
      cases hk
      subst he
      exact G_callVX (M := mL_make) (As := [.int x1]) (st := [.int 0, .ref 160]) [] (0, 16, 19, 24) [(0, 16, 22, 13)] rfl dL_make_4 shz0 ckL_54 cvL_X11_make rfl (Nat.le_refl _) (by decide) hc rfl rfl (by decide) (fun z h => nomatch h) (fun z h => by rcases List.mem_cons.mp h with rfl | h; exact ⟨by decide, rfl, rfl⟩; exact nomatch h) (by decide) cle_24 (Or.inl ⟨_, _, dL_make_19, by decide, dL_make_20, by decide, dL_make_21⟩)
    · split at hk
      · rename_i he
        cases hk
        subst he
        exact G_callVX (M := mL_make) (As := [.int x1]) (st := [.int 0, .ref 160]) [(0, 16, 19, 24)] (0, 16, 22, 13) [] rfl dL_make_4 shz0 ckL_54 cvL_X11_make rfl (Nat.le_refl _) (by decide) hc rfl rfl (by decide) (fun z h => by rcases List.mem_cons.mp h with rfl | h; exact ⟨by decide, "java/lang/IndexOutOfBoundsException", by decide, by decide, cle_24⟩; exact nomatch h) (fun z h => by rcases List.mem_cons.mp h with rfl | h; exact ⟨by decide, rfl, rfl⟩; exact nomatch h) (by decide) cle_13 (Or.inl ⟨_, _, dL_make_22, by decide, dL_make_23, by decide, dL_make_24⟩)
      · cases hk
  · rw [hr] at hc hk
    simp only [rB, wkB, bS] at hc hk
    cases hk
    refine G_cV1 (M := mL_make) (As := [.int x1]) (st := [.int 0, .ref 160]) 7 rfl dL_make_4 shz0 ckL_54 cvL_X11_make rfl (Nat.le_refl _) (by decide) hc rfl ?_
    refine G_if_eqB (M := mL_make) 14 10 (by decide) rfl dL_make_7 (fun h9 => ?_) (fun h9 => ?_)
    · subst h9
      refine G_lconst (M := mL_make) (v := 0) 15 rfl dL_make_14 (by decide) ?_
      refine G_last (M := mL_make) 16 rfl dL_make_15 sh160 inL0 ?_
      refine G_goto (M := mL_make) 25 (by decide) dL_make_16 ?_
      refine G_iconst (M := mL_make) (v := 0) 26 rfl dL_make_25 (by decide) ?_
      exact G_wret rfl dL_make_26
    · subst h9
      refine G_lconst (M := mL_make) (v := 1) 11 rfl dL_make_10 (by decide) ?_
      refine G_goto (M := mL_make) 15 (by decide) dL_make_11 ?_
      refine G_last (M := mL_make) 16 rfl dL_make_15 sh160 inL0 ?_
      refine G_goto (M := mL_make) 25 (by decide) dL_make_16 ?_
      refine G_iconst (M := mL_make) (v := 0) 26 rfl dL_make_25 (by decide) ?_
      exact G_wret rfl dL_make_26
abbrev mL_oil : Mth := (yL_oil, cL_oil, 5, some .int)
abbrev hL_oil : HT := [(0, 10, 13, 24), (0, 10, 17, 13)]
theorem D_L_oil {g : Gx} {x1 : Int32} {x2 : Int32} {I : MI} {L : ML} {res : (String ⊕ Int32) × MI × ML} (h : f_X11_oil x1 x2 I L = some res) {k : Int32} {L1 : ML} (hk : wkI ["java/lang/IndexOutOfBoundsException", "java/lang/IllegalArgumentException"] res.1 res.2.2 = some (k, L1)) : EntW g 8 mL_oil hL_oil [.ref 0, .int x1, .int x2, .ref 160] (I, L) k (res.2.1, L1) := by
  have hc := C_X11_oil (g := g) h
  refine EntW_of (by decide +kernel) (Nat.le_of_ble_eq_true rfl) ?_
  show EG _ _ g 8 1 mL_oil 0 [(0, .ref 0), (1, .int x1), (2, .int x2), (3, .ref 160)] [] (I, L)
  refine G_aload_n (M := mL_oil) 1 rfl dL_oil_0 rfl 3 rfl ?_
  refine G_iconst (M := mL_oil) (v := 0) 2 rfl dL_oil_1 (by decide) ?_
  refine G_aload_n (M := mL_oil) 3 rfl dL_oil_2 rfl 0 rfl ?_
  refine G_iload_n (M := mL_oil) 4 rfl dL_oil_3 rfl 1 rfl ?_
  refine G_iload_n (M := mL_oil) 5 rfl dL_oil_4 rfl 2 rfl ?_
  rcases hr : res.1 with e9 | v9
  · rw [hr] at hc hk
    simp only [rI, wkI, wkB, wkJ, wkE] at hc hk
    split at hk
    · rename_i he
      cases hk
      subst he
      exact G_callVX (M := mL_oil) (As := [.int x1, .int x2]) (st := [.int 0, .ref 160]) [] (0, 10, 13, 24) [(0, 10, 17, 13)] rfl dL_oil_5 shz0 ckL_58 cvL_X11_oil rfl (Nat.le_refl _) (by decide) hc rfl rfl (by decide) (fun z h => nomatch h) (fun z h => by rcases List.mem_cons.mp h with rfl | h; exact ⟨by decide, rfl, rfl⟩; exact nomatch h) (by decide) cle_24 (Or.inr ⟨_, _, dL_oil_13, by decide, dL_oil_15, by decide, dL_oil_16⟩)
    · split at hk
      · rename_i he
        cases hk
        subst he
        exact G_callVX (M := mL_oil) (As := [.int x1, .int x2]) (st := [.int 0, .ref 160]) [(0, 10, 13, 24)] (0, 10, 17, 13) [] rfl dL_oil_5 shz0 ckL_58 cvL_X11_oil rfl (Nat.le_refl _) (by decide) hc rfl rfl (by decide) (fun z h => by rcases List.mem_cons.mp h with rfl | h; exact ⟨by decide, "java/lang/IndexOutOfBoundsException", by decide, by decide, cle_24⟩; exact nomatch h) (fun z h => by rcases List.mem_cons.mp h with rfl | h; exact ⟨by decide, rfl, rfl⟩; exact nomatch h) (by decide) cle_13 (Or.inr ⟨_, _, dL_oil_17, by decide, dL_oil_19, by decide, dL_oil_20⟩)
      · cases hk
  · rw [hr] at hc hk
    simp only [rI, wkI, bS] at hc hk
    cases hk
    refine G_cV1 (M := mL_oil) (As := [.int x1, .int x2]) (st := [.int 0, .ref 160]) 8 rfl dL_oil_5 shz0 ckL_58 cvL_X11_oil rfl (Nat.le_refl _) (by decide) hc rfl ?_
    refine G_i2l (M := mL_oil) 9 rfl dL_oil_8 ?_
    refine G_last (M := mL_oil) 10 rfl dL_oil_9 sh160 inL0 ?_
    refine G_goto (M := mL_oil) 21 (by decide) dL_oil_10 ?_
    refine G_iconst (M := mL_oil) (v := 0) 22 rfl dL_oil_21 (by decide) ?_
    exact G_wret rfl dL_oil_22
abbrev mL_carpet : Mth := (yL_carpet, cL_carpet, 5, some .int)
abbrev hL_carpet : HT := [(0, 10, 13, 24), (0, 10, 17, 13)]
theorem D_L_carpet {g : Gx} {x1 : Int32} {x2 : Int32} {I : MI} {L : ML} {res : (String ⊕ Int32) × MI × ML} (h : f_X11_carpet x1 x2 I L = some res) {k : Int32} {L1 : ML} (hk : wkI ["java/lang/IndexOutOfBoundsException", "java/lang/IllegalArgumentException"] res.1 res.2.2 = some (k, L1)) : EntW g 8 mL_carpet hL_carpet [.ref 0, .int x1, .int x2, .ref 160] (I, L) k (res.2.1, L1) := by
  have hc := C_X11_carpet (g := g) h
  refine EntW_of (by decide +kernel) (Nat.le_of_ble_eq_true rfl) ?_
  show EG _ _ g 8 1 mL_carpet 0 [(0, .ref 0), (1, .int x1), (2, .int x2), (3, .ref 160)] [] (I, L)
  refine G_aload_n (M := mL_carpet) 1 rfl dL_carpet_0 rfl 3 rfl ?_
  refine G_iconst (M := mL_carpet) (v := 0) 2 rfl dL_carpet_1 (by decide) ?_
  refine G_aload_n (M := mL_carpet) 3 rfl dL_carpet_2 rfl 0 rfl ?_
  refine G_iload_n (M := mL_carpet) 4 rfl dL_carpet_3 rfl 1 rfl ?_
  refine G_iload_n (M := mL_carpet) 5 rfl dL_carpet_4 rfl 2 rfl ?_
  rcases hr : res.1 with e9 | v9
  · rw [hr] at hc hk
    simp only [rI, wkI, wkB, wkJ, wkE] at hc hk
    split at hk
    · rename_i he
      cases hk
      subst he
      exact G_callVX (M := mL_carpet) (As := [.int x1, .int x2]) (st := [.int 0, .ref 160]) [] (0, 10, 13, 24) [(0, 10, 17, 13)] rfl dL_carpet_5 shz0 ckL_61 cvL_X11_carpet rfl (Nat.le_refl _) (by decide) hc rfl rfl (by decide) (fun z h => nomatch h) (fun z h => by rcases List.mem_cons.mp h with rfl | h; exact ⟨by decide, rfl, rfl⟩; exact nomatch h) (by decide) cle_24 (Or.inr ⟨_, _, dL_carpet_13, by decide, dL_carpet_15, by decide, dL_carpet_16⟩)
    · split at hk
      · rename_i he
        cases hk
        subst he
        exact G_callVX (M := mL_carpet) (As := [.int x1, .int x2]) (st := [.int 0, .ref 160]) [(0, 10, 13, 24)] (0, 10, 17, 13) [] rfl dL_carpet_5 shz0 ckL_61 cvL_X11_carpet rfl (Nat.le_refl _) (by decide) hc rfl rfl (by decide) (fun z h => by rcases List.mem_cons.mp h with rfl | h; exact ⟨by decide, "java/lang/IndexOutOfBoundsException", by decide, by decide, cle_24⟩; exact nomatch h) (fun z h => by rcases List.mem_cons.mp h with rfl | h; exact ⟨by decide, rfl, rfl⟩; exact nomatch h) (by decide) cle_13 (Or.inr ⟨_, _, dL_carpet_17, by decide, dL_carpet_19, by decide, dL_carpet_20⟩)
      · cases hk
  · rw [hr] at hc hk
    simp only [rI, wkI, bS] at hc hk
    cases hk
    refine G_cV1 (M := mL_carpet) (As := [.int x1, .int x2]) (st := [.int 0, .ref 160]) 8 rfl dL_carpet_5 shz0 ckL_61 cvL_X11_carpet rfl (Nat.le_refl _) (by decide) hc rfl ?_
    refine G_i2l (M := mL_carpet) 9 rfl dL_carpet_8 ?_
    refine G_last (M := mL_carpet) 10 rfl dL_carpet_9 sh160 inL0 ?_
    refine G_goto (M := mL_carpet) 21 (by decide) dL_carpet_10 ?_
    refine G_iconst (M := mL_carpet) (v := 0) 22 rfl dL_carpet_21 (by decide) ?_
    exact G_wret rfl dL_carpet_22
abbrev mL_odds : Mth := (yL_odds, cL_odds, 6, some .int)
abbrev hL_odds : HT := [(0, 12, 15, 24), (0, 12, 19, 13)]
theorem D_L_odds {g : Gx} {x1 : Int32} {x2 : Int32} {x3 : Int32} {I : MI} {L : ML} {res : (String ⊕ Int32) × MI × ML} (h : f_X11_odds x1 x2 x3 I L = some res) {k : Int32} {L1 : ML} (hk : wkI ["java/lang/IndexOutOfBoundsException", "java/lang/IllegalArgumentException"] res.1 res.2.2 = some (k, L1)) : EntW g 9 mL_odds hL_odds [.ref 0, .int x1, .int x2, .int x3, .ref 160] (I, L) k (res.2.1, L1) := by
  have hc := C_X11_odds (g := g) h
  refine EntW_of (by decide +kernel) (Nat.le_of_ble_eq_true rfl) ?_
  show EG _ _ g 9 1 mL_odds 0 [(0, .ref 0), (1, .int x1), (2, .int x2), (3, .int x3), (4, .ref 160)] [] (I, L)
  refine G_aload (M := mL_odds) 2 rfl dL_odds_0 4 rfl ?_
  refine G_iconst (M := mL_odds) (v := 0) 3 rfl dL_odds_2 (by decide) ?_
  refine G_aload_n (M := mL_odds) 4 rfl dL_odds_3 rfl 0 rfl ?_
  refine G_iload_n (M := mL_odds) 5 rfl dL_odds_4 rfl 1 rfl ?_
  refine G_iload_n (M := mL_odds) 6 rfl dL_odds_5 rfl 2 rfl ?_
  refine G_iload_n (M := mL_odds) 7 rfl dL_odds_6 rfl 3 rfl ?_
  rcases hr : res.1 with e9 | v9
  · rw [hr] at hc hk
    simp only [rI, wkI, wkB, wkJ, wkE] at hc hk
    split at hk
    · rename_i he
      cases hk
      subst he
      exact G_callVX (M := mL_odds) (As := [.int x1, .int x2, .int x3]) (st := [.int 0, .ref 160]) [] (0, 12, 15, 24) [(0, 12, 19, 13)] rfl dL_odds_7 shz0 ckL_64 cvL_X11_odds rfl (Nat.le_refl _) (by decide) hc rfl rfl (by decide) (fun z h => nomatch h) (fun z h => by rcases List.mem_cons.mp h with rfl | h; exact ⟨by decide, rfl, rfl⟩; exact nomatch h) (by decide) cle_24 (Or.inr ⟨_, _, dL_odds_15, by decide, dL_odds_17, by decide, dL_odds_18⟩)
    · split at hk
      · rename_i he
        cases hk
        subst he
        exact G_callVX (M := mL_odds) (As := [.int x1, .int x2, .int x3]) (st := [.int 0, .ref 160]) [(0, 12, 15, 24)] (0, 12, 19, 13) [] rfl dL_odds_7 shz0 ckL_64 cvL_X11_odds rfl (Nat.le_refl _) (by decide) hc rfl rfl (by decide) (fun z h => by rcases List.mem_cons.mp h with rfl | h; exact ⟨by decide, "java/lang/IndexOutOfBoundsException", by decide, by decide, cle_24⟩; exact nomatch h) (fun z h => by rcases List.mem_cons.mp h with rfl | h; exact ⟨by decide, rfl, rfl⟩; exact nomatch h) (by decide) cle_13 (Or.inr ⟨_, _, dL_odds_19, by decide, dL_odds_21, by decide, dL_odds_22⟩)
      · cases hk
  · rw [hr] at hc hk
    simp only [rI, wkI, bS] at hc hk
    cases hk
    refine G_cV1 (M := mL_odds) (As := [.int x1, .int x2, .int x3]) (st := [.int 0, .ref 160]) 10 rfl dL_odds_7 shz0 ckL_64 cvL_X11_odds rfl (Nat.le_refl _) (by decide) hc rfl ?_
    refine G_i2l (M := mL_odds) 11 rfl dL_odds_10 ?_
    refine G_last (M := mL_odds) 12 rfl dL_odds_11 sh160 inL0 ?_
    refine G_goto (M := mL_odds) 23 (by decide) dL_odds_12 ?_
    refine G_iconst (M := mL_odds) (v := 0) 24 rfl dL_odds_23 (by decide) ?_
    exact G_wret rfl dL_odds_24
abbrev mL_likeliest : Mth := (yL_likeliest, cL_likeliest, 5, some .int)
abbrev hL_likeliest : HT := [(0, 10, 13, 24), (0, 10, 17, 13)]
theorem D_L_likeliest {g : Gx} {x1 : Int32} {x2 : Int32} {I : MI} {L : ML} {res : (String ⊕ Int32) × MI × ML} (h : f_X11_likeliest x1 x2 I L = some res) {k : Int32} {L1 : ML} (hk : wkI ["java/lang/IndexOutOfBoundsException", "java/lang/IllegalArgumentException"] res.1 res.2.2 = some (k, L1)) : EntW g 9 mL_likeliest hL_likeliest [.ref 0, .int x1, .int x2, .ref 160] (I, L) k (res.2.1, L1) := by
  have hc := C_X11_likeliest (g := g) h
  refine EntW_of (by decide +kernel) (Nat.le_of_ble_eq_true rfl) ?_
  show EG _ _ g 9 1 mL_likeliest 0 [(0, .ref 0), (1, .int x1), (2, .int x2), (3, .ref 160)] [] (I, L)
  refine G_aload_n (M := mL_likeliest) 1 rfl dL_likeliest_0 rfl 3 rfl ?_
  refine G_iconst (M := mL_likeliest) (v := 0) 2 rfl dL_likeliest_1 (by decide) ?_
  refine G_aload_n (M := mL_likeliest) 3 rfl dL_likeliest_2 rfl 0 rfl ?_
  refine G_iload_n (M := mL_likeliest) 4 rfl dL_likeliest_3 rfl 1 rfl ?_
  refine G_iload_n (M := mL_likeliest) 5 rfl dL_likeliest_4 rfl 2 rfl ?_
  rcases hr : res.1 with e9 | v9
  · rw [hr] at hc hk
    simp only [rI, wkI, wkB, wkJ, wkE] at hc hk
    split at hk
    · rename_i he
      cases hk
      subst he
      exact G_callVX (M := mL_likeliest) (As := [.int x1, .int x2]) (st := [.int 0, .ref 160]) [] (0, 10, 13, 24) [(0, 10, 17, 13)] rfl dL_likeliest_5 shz0 ckL_67 cvL_X11_likeliest rfl (Nat.le_refl _) (by decide) hc rfl rfl (by decide) (fun z h => nomatch h) (fun z h => by rcases List.mem_cons.mp h with rfl | h; exact ⟨by decide, rfl, rfl⟩; exact nomatch h) (by decide) cle_24 (Or.inr ⟨_, _, dL_likeliest_13, by decide, dL_likeliest_15, by decide, dL_likeliest_16⟩)
    · split at hk
      · rename_i he
        cases hk
        subst he
        exact G_callVX (M := mL_likeliest) (As := [.int x1, .int x2]) (st := [.int 0, .ref 160]) [(0, 10, 13, 24)] (0, 10, 17, 13) [] rfl dL_likeliest_5 shz0 ckL_67 cvL_X11_likeliest rfl (Nat.le_refl _) (by decide) hc rfl rfl (by decide) (fun z h => by rcases List.mem_cons.mp h with rfl | h; exact ⟨by decide, "java/lang/IndexOutOfBoundsException", by decide, by decide, cle_24⟩; exact nomatch h) (fun z h => by rcases List.mem_cons.mp h with rfl | h; exact ⟨by decide, rfl, rfl⟩; exact nomatch h) (by decide) cle_13 (Or.inr ⟨_, _, dL_likeliest_17, by decide, dL_likeliest_19, by decide, dL_likeliest_20⟩)
      · cases hk
  · rw [hr] at hc hk
    simp only [rI, wkI, bS] at hc hk
    cases hk
    refine G_cV1 (M := mL_likeliest) (As := [.int x1, .int x2]) (st := [.int 0, .ref 160]) 8 rfl dL_likeliest_5 shz0 ckL_67 cvL_X11_likeliest rfl (Nat.le_refl _) (by decide) hc rfl ?_
    refine G_i2l (M := mL_likeliest) 9 rfl dL_likeliest_8 ?_
    refine G_last (M := mL_likeliest) 10 rfl dL_likeliest_9 sh160 inL0 ?_
    refine G_goto (M := mL_likeliest) 21 (by decide) dL_likeliest_10 ?_
    refine G_iconst (M := mL_likeliest) (v := 0) 22 rfl dL_likeliest_21 (by decide) ?_
    exact G_wret rfl dL_likeliest_22
abbrev mL_due : Mth := (yL_due, cL_due, 5, some .int)
abbrev hL_due : HT := [(0, 9, 12, 24), (0, 9, 16, 13)]
theorem D_L_due {g : Gx} {x1 : Int32} {x2 : Int32} {I : MI} {L : ML} {res : (String ⊕ Int64) × MI × ML} (h : f_X11_due x1 x2 I L = some res) {k : Int32} {L1 : ML} (hk : wkJ ["java/lang/IndexOutOfBoundsException", "java/lang/IllegalArgumentException"] res.1 res.2.2 = some (k, L1)) : EntW g 10 mL_due hL_due [.ref 0, .int x1, .int x2, .ref 160] (I, L) k (res.2.1, L1) := by
  have hc := C_X11_due (g := g) h
  refine EntW_of (by decide +kernel) (Nat.le_of_ble_eq_true rfl) ?_
  show EG _ _ g 10 1 mL_due 0 [(0, .ref 0), (1, .int x1), (2, .int x2), (3, .ref 160)] [] (I, L)
  refine G_aload_n (M := mL_due) 1 rfl dL_due_0 rfl 3 rfl ?_
  refine G_iconst (M := mL_due) (v := 0) 2 rfl dL_due_1 (by decide) ?_
  refine G_aload_n (M := mL_due) 3 rfl dL_due_2 rfl 0 rfl ?_
  refine G_iload_n (M := mL_due) 4 rfl dL_due_3 rfl 1 rfl ?_
  refine G_iload_n (M := mL_due) 5 rfl dL_due_4 rfl 2 rfl ?_
  rcases hr : res.1 with e9 | v9
  · rw [hr] at hc hk
    simp only [rJ, wkI, wkB, wkJ, wkE] at hc hk
    split at hk
    · rename_i he
      cases hk
      subst he
      exact G_callVX (M := mL_due) (As := [.int x1, .int x2]) (st := [.int 0, .ref 160]) [] (0, 9, 12, 24) [(0, 9, 16, 13)] rfl dL_due_5 shz0 ckL_70 cvL_X11_due rfl (Nat.le_refl _) (by decide) hc rfl rfl (by decide) (fun z h => nomatch h) (fun z h => by rcases List.mem_cons.mp h with rfl | h; exact ⟨by decide, rfl, rfl⟩; exact nomatch h) (by decide) cle_24 (Or.inr ⟨_, _, dL_due_12, by decide, dL_due_14, by decide, dL_due_15⟩)
    · split at hk
      · rename_i he
        cases hk
        subst he
        exact G_callVX (M := mL_due) (As := [.int x1, .int x2]) (st := [.int 0, .ref 160]) [(0, 9, 12, 24)] (0, 9, 16, 13) [] rfl dL_due_5 shz0 ckL_70 cvL_X11_due rfl (Nat.le_refl _) (by decide) hc rfl rfl (by decide) (fun z h => by rcases List.mem_cons.mp h with rfl | h; exact ⟨by decide, "java/lang/IndexOutOfBoundsException", by decide, by decide, cle_24⟩; exact nomatch h) (fun z h => by rcases List.mem_cons.mp h with rfl | h; exact ⟨by decide, rfl, rfl⟩; exact nomatch h) (by decide) cle_13 (Or.inr ⟨_, _, dL_due_16, by decide, dL_due_18, by decide, dL_due_19⟩)
      · cases hk
  · rw [hr] at hc hk
    simp only [rJ, wkJ, bS] at hc hk
    cases hk
    refine G_cV1 (M := mL_due) (As := [.int x1, .int x2]) (st := [.int 0, .ref 160]) 8 rfl dL_due_5 shz0 ckL_70 cvL_X11_due rfl (Nat.le_refl _) (by decide) hc rfl ?_
    refine G_last (M := mL_due) 9 rfl dL_due_8 sh160 inL0 ?_
    refine G_goto (M := mL_due) 20 (by decide) dL_due_9 ?_
    refine G_iconst (M := mL_due) (v := 0) 21 rfl dL_due_20 (by decide) ?_
    exact G_wret rfl dL_due_21
abbrev mL_quiet : Mth := (yL_quiet, cL_quiet, 6, some .int)
abbrev hL_quiet : HT := [(0, 12, 15, 24), (0, 12, 19, 13)]
theorem D_L_quiet {g : Gx} {x1 : Int32} {x2 : Int32} {x3 : Int32} {I : MI} {L : ML} {res : (String ⊕ Int32) × MI × ML} (h : f_X11_quiet x1 x2 x3 I L = some res) {k : Int32} {L1 : ML} (hk : wkI ["java/lang/IndexOutOfBoundsException", "java/lang/IllegalArgumentException"] res.1 res.2.2 = some (k, L1)) : EntW g 48 mL_quiet hL_quiet [.ref 0, .int x1, .int x2, .int x3, .ref 160] (I, L) k (res.2.1, L1) := by
  have hc := C_X11_quiet (g := g) h
  refine EntW_of (by decide +kernel) (Nat.le_of_ble_eq_true rfl) ?_
  show EG _ _ g 48 1 mL_quiet 0 [(0, .ref 0), (1, .int x1), (2, .int x2), (3, .int x3), (4, .ref 160)] [] (I, L)
  refine G_aload (M := mL_quiet) 2 rfl dL_quiet_0 4 rfl ?_
  refine G_iconst (M := mL_quiet) (v := 0) 3 rfl dL_quiet_2 (by decide) ?_
  refine G_aload_n (M := mL_quiet) 4 rfl dL_quiet_3 rfl 0 rfl ?_
  refine G_iload_n (M := mL_quiet) 5 rfl dL_quiet_4 rfl 1 rfl ?_
  refine G_iload_n (M := mL_quiet) 6 rfl dL_quiet_5 rfl 2 rfl ?_
  refine G_iload_n (M := mL_quiet) 7 rfl dL_quiet_6 rfl 3 rfl ?_
  rcases hr : res.1 with e9 | v9
  · rw [hr] at hc hk
    simp only [rI, wkI, wkB, wkJ, wkE] at hc hk
    split at hk
    · rename_i he
      cases hk
      subst he
      exact G_callVX (M := mL_quiet) (As := [.int x1, .int x2, .int x3]) (st := [.int 0, .ref 160]) [] (0, 12, 15, 24) [(0, 12, 19, 13)] rfl dL_quiet_7 shz0 ckL_74 cvL_X11_quiet rfl (Nat.le_refl _) (by decide) hc rfl rfl (by decide) (fun z h => nomatch h) (fun z h => by rcases List.mem_cons.mp h with rfl | h; exact ⟨by decide, rfl, rfl⟩; exact nomatch h) (by decide) cle_24 (Or.inr ⟨_, _, dL_quiet_15, by decide, dL_quiet_17, by decide, dL_quiet_18⟩)
    · split at hk
      · rename_i he
        cases hk
        subst he
        exact G_callVX (M := mL_quiet) (As := [.int x1, .int x2, .int x3]) (st := [.int 0, .ref 160]) [(0, 12, 15, 24)] (0, 12, 19, 13) [] rfl dL_quiet_7 shz0 ckL_74 cvL_X11_quiet rfl (Nat.le_refl _) (by decide) hc rfl rfl (by decide) (fun z h => by rcases List.mem_cons.mp h with rfl | h; exact ⟨by decide, "java/lang/IndexOutOfBoundsException", by decide, by decide, cle_24⟩; exact nomatch h) (fun z h => by rcases List.mem_cons.mp h with rfl | h; exact ⟨by decide, rfl, rfl⟩; exact nomatch h) (by decide) cle_13 (Or.inr ⟨_, _, dL_quiet_19, by decide, dL_quiet_21, by decide, dL_quiet_22⟩)
      · cases hk
  · rw [hr] at hc hk
    simp only [rI, wkI, bS] at hc hk
    cases hk
    refine G_cV1 (M := mL_quiet) (As := [.int x1, .int x2, .int x3]) (st := [.int 0, .ref 160]) 10 rfl dL_quiet_7 shz0 ckL_74 cvL_X11_quiet rfl (Nat.le_refl _) (by decide) hc rfl ?_
    refine G_i2l (M := mL_quiet) 11 rfl dL_quiet_10 ?_
    refine G_last (M := mL_quiet) 12 rfl dL_quiet_11 sh160 inL0 ?_
    refine G_goto (M := mL_quiet) 23 (by decide) dL_quiet_12 ?_
    refine G_iconst (M := mL_quiet) (v := 0) 24 rfl dL_quiet_23 (by decide) ?_
    exact G_wret rfl dL_quiet_24
abbrev mL_suspects : Mth := (yL_suspects, cL_suspects, 4, some .int)
abbrev hL_suspects : HT := [(0, 9, 12, 24)]
theorem D_L_suspects {g : Gx} {x1 : Int32} {I : MI} {L : ML} {res : (String ⊕ Int32) × MI × ML} (h : f_X11_suspects x1 I L = some res) {k : Int32} {L1 : ML} (hk : wkI ["java/lang/IndexOutOfBoundsException"] res.1 res.2.2 = some (k, L1)) : EntW g 8 mL_suspects hL_suspects [.ref 0, .int x1, .ref 160] (I, L) k (res.2.1, L1) := by
  have hc := C_X11_suspects (g := g) h
  refine EntW_of (by decide +kernel) (Nat.le_of_ble_eq_true rfl) ?_
  show EG _ _ g 8 1 mL_suspects 0 [(0, .ref 0), (1, .int x1), (2, .ref 160)] [] (I, L)
  refine G_aload_n (M := mL_suspects) 1 rfl dL_suspects_0 rfl 2 rfl ?_
  refine G_iconst (M := mL_suspects) (v := 0) 2 rfl dL_suspects_1 (by decide) ?_
  refine G_aload_n (M := mL_suspects) 3 rfl dL_suspects_2 rfl 0 rfl ?_
  refine G_iload_n (M := mL_suspects) 4 rfl dL_suspects_3 rfl 1 rfl ?_
  rcases hr : res.1 with e9 | v9
  · rw [hr] at hc hk
    simp only [rI, wkI, wkB, wkJ, wkE] at hc hk
    split at hk
    · rename_i he
      cases hk
      subst he
      exact G_callVX (M := mL_suspects) (As := [.int x1]) (st := [.int 0, .ref 160]) [] (0, 9, 12, 24) [] rfl dL_suspects_4 shz0 ckL_77 cvL_X11_suspects rfl (Nat.le_refl _) (by decide) hc rfl rfl (by decide) (fun z h => nomatch h) (fun z h => by rcases List.mem_cons.mp h with rfl | h; exact ⟨by decide, rfl, rfl⟩; exact nomatch h) (by decide) cle_24 (Or.inl ⟨_, _, dL_suspects_12, by decide, dL_suspects_13, by decide, dL_suspects_14⟩)
    · cases hk
  · rw [hr] at hc hk
    simp only [rI, wkI, bS] at hc hk
    cases hk
    refine G_cV1 (M := mL_suspects) (As := [.int x1]) (st := [.int 0, .ref 160]) 7 rfl dL_suspects_4 shz0 ckL_77 cvL_X11_suspects rfl (Nat.le_refl _) (by decide) hc rfl ?_
    refine G_i2l (M := mL_suspects) 8 rfl dL_suspects_7 ?_
    refine G_last (M := mL_suspects) 9 rfl dL_suspects_8 sh160 inL0 ?_
    refine G_goto (M := mL_suspects) 15 (by decide) dL_suspects_9 ?_
    refine G_iconst (M := mL_suspects) (v := 0) 16 rfl dL_suspects_15 (by decide) ?_
    exact G_wret rfl dL_suspects_16
abbrev mL_ghost : Mth := (yL_ghost, cL_ghost, 4, some .int)
abbrev hL_ghost : HT := [(0, 9, 12, 26), (0, 9, 15, 13)]
theorem D_L_ghost {g : Gx} {x1 : Int32} {I : MI} {L : ML} {res : (String ⊕ Int32) × MI × ML} (h : f_X11_ghost x1 I L = some res) {k : Int32} {L1 : ML} (hk : wkI ["java/util/NoSuchElementException", "java/lang/IllegalArgumentException"] res.1 res.2.2 = some (k, L1)) : EntW g 8 mL_ghost hL_ghost [.ref 0, .int x1, .ref 160] (I, L) k (res.2.1, L1) := by
  have hc := C_X11_ghost (g := g) h
  refine EntW_of (by decide +kernel) (Nat.le_of_ble_eq_true rfl) ?_
  show EG _ _ g 8 1 mL_ghost 0 [(0, .ref 0), (1, .int x1), (2, .ref 160)] [] (I, L)
  refine G_aload_n (M := mL_ghost) 1 rfl dL_ghost_0 rfl 2 rfl ?_
  refine G_iconst (M := mL_ghost) (v := 0) 2 rfl dL_ghost_1 (by decide) ?_
  refine G_aload_n (M := mL_ghost) 3 rfl dL_ghost_2 rfl 0 rfl ?_
  refine G_iload_n (M := mL_ghost) 4 rfl dL_ghost_3 rfl 1 rfl ?_
  rcases hr : res.1 with e9 | v9
  · rw [hr] at hc hk
    simp only [rI, wkI, wkB, wkJ, wkE] at hc hk
    split at hk
    · rename_i he
      cases hk
      subst he
      exact G_callVX (M := mL_ghost) (As := [.int x1]) (st := [.int 0, .ref 160]) [] (0, 9, 12, 26) [(0, 9, 15, 13)] rfl dL_ghost_4 shz0 ckL_80 cvL_X11_ghost rfl (Nat.le_refl _) (by decide) hc rfl rfl (by decide) (fun z h => nomatch h) (fun z h => by rcases List.mem_cons.mp h with rfl | h; exact ⟨by decide, rfl, rfl⟩; exact nomatch h) (by decide) cle_26 (Or.inl ⟨_, _, dL_ghost_12, by decide, dL_ghost_13, by decide, dL_ghost_14⟩)
    · split at hk
      · rename_i he
        cases hk
        subst he
        exact G_callVX (M := mL_ghost) (As := [.int x1]) (st := [.int 0, .ref 160]) [(0, 9, 12, 26)] (0, 9, 15, 13) [] rfl dL_ghost_4 shz0 ckL_80 cvL_X11_ghost rfl (Nat.le_refl _) (by decide) hc rfl rfl (by decide) (fun z h => by rcases List.mem_cons.mp h with rfl | h; exact ⟨by decide, "java/util/NoSuchElementException", by decide, by decide, cle_26⟩; exact nomatch h) (fun z h => by rcases List.mem_cons.mp h with rfl | h; exact ⟨by decide, rfl, rfl⟩; exact nomatch h) (by decide) cle_13 (Or.inl ⟨_, _, dL_ghost_15, by decide, dL_ghost_16, by decide, dL_ghost_17⟩)
      · cases hk
  · rw [hr] at hc hk
    simp only [rI, wkI, bS] at hc hk
    cases hk
    refine G_cV1 (M := mL_ghost) (As := [.int x1]) (st := [.int 0, .ref 160]) 7 rfl dL_ghost_4 shz0 ckL_80 cvL_X11_ghost rfl (Nat.le_refl _) (by decide) hc rfl ?_
    refine G_i2l (M := mL_ghost) 8 rfl dL_ghost_7 ?_
    refine G_last (M := mL_ghost) 9 rfl dL_ghost_8 sh160 inL0 ?_
    refine G_goto (M := mL_ghost) 18 (by decide) dL_ghost_9 ?_
    refine G_iconst (M := mL_ghost) (v := 0) 19 rfl dL_ghost_18 (by decide) ?_
    exact G_wret rfl dL_ghost_19
abbrev mL_breach : Mth := (yL_breach, cL_breach, 5, some .int)
abbrev hL_breach : HT := [(0, 9, 12, 24), (0, 9, 16, 13)]
theorem D_L_breach {g : Gx} {x1 : Int32} {x2 : Int32} {I : MI} {L : ML} {res : (String ⊕ Int64) × MI × ML} (h : f_X11_breach x1 x2 I L = some res) {k : Int32} {L1 : ML} (hk : wkJ ["java/lang/IndexOutOfBoundsException", "java/lang/IllegalArgumentException"] res.1 res.2.2 = some (k, L1)) : EntW g 11 mL_breach hL_breach [.ref 0, .int x1, .int x2, .ref 160] (I, L) k (res.2.1, L1) := by
  have hc := C_X11_breach (g := g) h
  refine EntW_of (by decide +kernel) (Nat.le_of_ble_eq_true rfl) ?_
  show EG _ _ g 11 1 mL_breach 0 [(0, .ref 0), (1, .int x1), (2, .int x2), (3, .ref 160)] [] (I, L)
  refine G_aload_n (M := mL_breach) 1 rfl dL_breach_0 rfl 3 rfl ?_
  refine G_iconst (M := mL_breach) (v := 0) 2 rfl dL_breach_1 (by decide) ?_
  refine G_aload_n (M := mL_breach) 3 rfl dL_breach_2 rfl 0 rfl ?_
  refine G_iload_n (M := mL_breach) 4 rfl dL_breach_3 rfl 1 rfl ?_
  refine G_iload_n (M := mL_breach) 5 rfl dL_breach_4 rfl 2 rfl ?_
  rcases hr : res.1 with e9 | v9
  · rw [hr] at hc hk
    simp only [rJ, wkI, wkB, wkJ, wkE] at hc hk
    split at hk
    · rename_i he
      cases hk
      subst he
      exact G_callVX (M := mL_breach) (As := [.int x1, .int x2]) (st := [.int 0, .ref 160]) [] (0, 9, 12, 24) [(0, 9, 16, 13)] rfl dL_breach_5 shz0 ckL_83 cvL_X11_breach rfl (Nat.le_refl _) (by decide) hc rfl rfl (by decide) (fun z h => nomatch h) (fun z h => by rcases List.mem_cons.mp h with rfl | h; exact ⟨by decide, rfl, rfl⟩; exact nomatch h) (by decide) cle_24 (Or.inr ⟨_, _, dL_breach_12, by decide, dL_breach_14, by decide, dL_breach_15⟩)
    · split at hk
      · rename_i he
        cases hk
        subst he
        exact G_callVX (M := mL_breach) (As := [.int x1, .int x2]) (st := [.int 0, .ref 160]) [(0, 9, 12, 24)] (0, 9, 16, 13) [] rfl dL_breach_5 shz0 ckL_83 cvL_X11_breach rfl (Nat.le_refl _) (by decide) hc rfl rfl (by decide) (fun z h => by rcases List.mem_cons.mp h with rfl | h; exact ⟨by decide, "java/lang/IndexOutOfBoundsException", by decide, by decide, cle_24⟩; exact nomatch h) (fun z h => by rcases List.mem_cons.mp h with rfl | h; exact ⟨by decide, rfl, rfl⟩; exact nomatch h) (by decide) cle_13 (Or.inr ⟨_, _, dL_breach_16, by decide, dL_breach_18, by decide, dL_breach_19⟩)
      · cases hk
  · rw [hr] at hc hk
    simp only [rJ, wkJ, bS] at hc hk
    cases hk
    refine G_cV1 (M := mL_breach) (As := [.int x1, .int x2]) (st := [.int 0, .ref 160]) 8 rfl dL_breach_5 shz0 ckL_83 cvL_X11_breach rfl (Nat.le_refl _) (by decide) hc rfl ?_
    refine G_last (M := mL_breach) 9 rfl dL_breach_8 sh160 inL0 ?_
    refine G_goto (M := mL_breach) 20 (by decide) dL_breach_9 ?_
    refine G_iconst (M := mL_breach) (v := 0) 21 rfl dL_breach_20 (by decide) ?_
    exact G_wret rfl dL_breach_21
abbrev mL_silence : Mth := (yL_silence, cL_silence, 7, some .int)
abbrev hL_silence : HT := [(0, 13, 16, 24), (0, 13, 20, 13)]
theorem D_L_silence {g : Gx} {x1 : Int32} {x2 : Int32} {x3 : Int32} {x4 : Bool} {I : MI} {L : ML} {res : (String ⊕ Int64) × MI × ML} (h : f_X11_silence x1 x2 x3 x4 I L = some res) {k : Int32} {L1 : ML} (hk : wkJ ["java/lang/IndexOutOfBoundsException", "java/lang/IllegalArgumentException"] res.1 res.2.2 = some (k, L1)) : EntW g 10 mL_silence hL_silence [.ref 0, .int x1, .int x2, .int x3, .int (bI x4), .ref 160] (I, L) k (res.2.1, L1) := by
  have hc := C_X11_silence (g := g) h
  refine EntW_of (by decide +kernel) (Nat.le_of_ble_eq_true rfl) ?_
  show EG _ _ g 10 1 mL_silence 0 [(0, .ref 0), (1, .int x1), (2, .int x2), (3, .int x3), (4, .int (bI x4)), (5, .ref 160)] [] (I, L)
  refine G_aload (M := mL_silence) 2 rfl dL_silence_0 5 rfl ?_
  refine G_iconst (M := mL_silence) (v := 0) 3 rfl dL_silence_2 (by decide) ?_
  refine G_aload_n (M := mL_silence) 4 rfl dL_silence_3 rfl 0 rfl ?_
  refine G_iload_n (M := mL_silence) 5 rfl dL_silence_4 rfl 1 rfl ?_
  refine G_iload_n (M := mL_silence) 6 rfl dL_silence_5 rfl 2 rfl ?_
  refine G_iload_n (M := mL_silence) 7 rfl dL_silence_6 rfl 3 rfl ?_
  refine G_iload (M := mL_silence) 9 rfl dL_silence_7 4 rfl ?_
  rcases hr : res.1 with e9 | v9
  · rw [hr] at hc hk
    simp only [rJ, wkI, wkB, wkJ, wkE] at hc hk
    split at hk
    · rename_i he
      cases hk
      subst he
      exact G_callVX (M := mL_silence) (As := [.int x1, .int x2, .int x3, .int (bI x4)]) (st := [.int 0, .ref 160]) [] (0, 13, 16, 24) [(0, 13, 20, 13)] rfl dL_silence_9 shz0 ckL_86 cvL_X11_silence rfl (Nat.le_refl _) (by decide) hc rfl rfl (by decide) (fun z h => nomatch h) (fun z h => by rcases List.mem_cons.mp h with rfl | h; exact ⟨by decide, rfl, rfl⟩; exact nomatch h) (by decide) cle_24 (Or.inr ⟨_, _, dL_silence_16, by decide, dL_silence_18, by decide, dL_silence_19⟩)
    · split at hk
      · rename_i he
        cases hk
        subst he
        exact G_callVX (M := mL_silence) (As := [.int x1, .int x2, .int x3, .int (bI x4)]) (st := [.int 0, .ref 160]) [(0, 13, 16, 24)] (0, 13, 20, 13) [] rfl dL_silence_9 shz0 ckL_86 cvL_X11_silence rfl (Nat.le_refl _) (by decide) hc rfl rfl (by decide) (fun z h => by rcases List.mem_cons.mp h with rfl | h; exact ⟨by decide, "java/lang/IndexOutOfBoundsException", by decide, by decide, cle_24⟩; exact nomatch h) (fun z h => by rcases List.mem_cons.mp h with rfl | h; exact ⟨by decide, rfl, rfl⟩; exact nomatch h) (by decide) cle_13 (Or.inr ⟨_, _, dL_silence_20, by decide, dL_silence_22, by decide, dL_silence_23⟩)
      · cases hk
  · rw [hr] at hc hk
    simp only [rJ, wkJ, bS] at hc hk
    cases hk
    refine G_cV1 (M := mL_silence) (As := [.int x1, .int x2, .int x3, .int (bI x4)]) (st := [.int 0, .ref 160]) 12 rfl dL_silence_9 shz0 ckL_86 cvL_X11_silence rfl (Nat.le_refl _) (by decide) hc rfl ?_
    refine G_last (M := mL_silence) 13 rfl dL_silence_12 sh160 inL0 ?_
    refine G_goto (M := mL_silence) 24 (by decide) dL_silence_13 ?_
    refine G_iconst (M := mL_silence) (v := 0) 25 rfl dL_silence_24 (by decide) ?_
    exact G_wret rfl dL_silence_25
abbrev mL_ears : Mth := (yL_ears, cL_ears, 5, some .int)
abbrev hL_ears : HT := [(0, 10, 13, 24)]
theorem D_L_ears {g : Gx} {x1 : Int32} {x2 : Int32} {I : MI} {L : ML} {res : (String ⊕ Int32) × MI × ML} (h : f_X11_ears x1 x2 I L = some res) {k : Int32} {L1 : ML} (hk : wkI ["java/lang/IndexOutOfBoundsException"] res.1 res.2.2 = some (k, L1)) : EntW g 8 mL_ears hL_ears [.ref 0, .int x1, .int x2, .ref 160] (I, L) k (res.2.1, L1) := by
  have hc := C_X11_ears (g := g) h
  refine EntW_of (by decide +kernel) (Nat.le_of_ble_eq_true rfl) ?_
  show EG _ _ g 8 1 mL_ears 0 [(0, .ref 0), (1, .int x1), (2, .int x2), (3, .ref 160)] [] (I, L)
  refine G_aload_n (M := mL_ears) 1 rfl dL_ears_0 rfl 3 rfl ?_
  refine G_iconst (M := mL_ears) (v := 0) 2 rfl dL_ears_1 (by decide) ?_
  refine G_aload_n (M := mL_ears) 3 rfl dL_ears_2 rfl 0 rfl ?_
  refine G_iload_n (M := mL_ears) 4 rfl dL_ears_3 rfl 1 rfl ?_
  refine G_iload_n (M := mL_ears) 5 rfl dL_ears_4 rfl 2 rfl ?_
  rcases hr : res.1 with e9 | v9
  · rw [hr] at hc hk
    simp only [rI, wkI, wkB, wkJ, wkE] at hc hk
    split at hk
    · rename_i he
      cases hk
      subst he
      exact G_callVX (M := mL_ears) (As := [.int x1, .int x2]) (st := [.int 0, .ref 160]) [] (0, 10, 13, 24) [] rfl dL_ears_5 shz0 ckL_90 cvL_X11_ears rfl (Nat.le_refl _) (by decide) hc rfl rfl (by decide) (fun z h => nomatch h) (fun z h => by rcases List.mem_cons.mp h with rfl | h; exact ⟨by decide, rfl, rfl⟩; exact nomatch h) (by decide) cle_24 (Or.inr ⟨_, _, dL_ears_13, by decide, dL_ears_15, by decide, dL_ears_16⟩)
    · cases hk
  · rw [hr] at hc hk
    simp only [rI, wkI, bS] at hc hk
    cases hk
    refine G_cV1 (M := mL_ears) (As := [.int x1, .int x2]) (st := [.int 0, .ref 160]) 8 rfl dL_ears_5 shz0 ckL_90 cvL_X11_ears rfl (Nat.le_refl _) (by decide) hc rfl ?_
    refine G_i2l (M := mL_ears) 9 rfl dL_ears_8 ?_
    refine G_last (M := mL_ears) 10 rfl dL_ears_9 sh160 inL0 ?_
    refine G_goto (M := mL_ears) 17 (by decide) dL_ears_10 ?_
    refine G_iconst (M := mL_ears) (v := 0) 18 rfl dL_ears_17 (by decide) ?_
    exact G_wret rfl dL_ears_18
abbrev mL_seat : Mth := (yL_seat, cL_seat, 4, some .int)
abbrev hL_seat : HT := [(0, 9, 12, 24)]
theorem D_L_seat {g : Gx} {x1 : Int32} {I : MI} {L : ML} {res : (String ⊕ Int32) × MI × ML} (h : f_X11_seat x1 I L = some res) {k : Int32} {L1 : ML} (hk : wkI ["java/lang/IndexOutOfBoundsException"] res.1 res.2.2 = some (k, L1)) : EntW g 10 mL_seat hL_seat [.ref 0, .int x1, .ref 160] (I, L) k (res.2.1, L1) := by
  have hc := C_X11_seat (g := g) h
  refine EntW_of (by decide +kernel) (Nat.le_of_ble_eq_true rfl) ?_
  show EG _ _ g 10 1 mL_seat 0 [(0, .ref 0), (1, .int x1), (2, .ref 160)] [] (I, L)
  refine G_aload_n (M := mL_seat) 1 rfl dL_seat_0 rfl 2 rfl ?_
  refine G_iconst (M := mL_seat) (v := 0) 2 rfl dL_seat_1 (by decide) ?_
  refine G_aload_n (M := mL_seat) 3 rfl dL_seat_2 rfl 0 rfl ?_
  refine G_iload_n (M := mL_seat) 4 rfl dL_seat_3 rfl 1 rfl ?_
  rcases hr : res.1 with e9 | v9
  · rw [hr] at hc hk
    simp only [rI, wkI, wkB, wkJ, wkE] at hc hk
    split at hk
    · rename_i he
      cases hk
      subst he
      exact G_callVX (M := mL_seat) (As := [.int x1]) (st := [.int 0, .ref 160]) [] (0, 9, 12, 24) [] rfl dL_seat_4 shz0 ckL_93 cvL_X11_seat rfl (Nat.le_refl _) (by decide) hc rfl rfl (by decide) (fun z h => nomatch h) (fun z h => by rcases List.mem_cons.mp h with rfl | h; exact ⟨by decide, rfl, rfl⟩; exact nomatch h) (by decide) cle_24 (Or.inl ⟨_, _, dL_seat_12, by decide, dL_seat_13, by decide, dL_seat_14⟩)
    · cases hk
  · rw [hr] at hc hk
    simp only [rI, wkI, bS] at hc hk
    cases hk
    refine G_cV1 (M := mL_seat) (As := [.int x1]) (st := [.int 0, .ref 160]) 7 rfl dL_seat_4 shz0 ckL_93 cvL_X11_seat rfl (Nat.le_refl _) (by decide) hc rfl ?_
    refine G_i2l (M := mL_seat) 8 rfl dL_seat_7 ?_
    refine G_last (M := mL_seat) 9 rfl dL_seat_8 sh160 inL0 ?_
    refine G_goto (M := mL_seat) 15 (by decide) dL_seat_9 ?_
    refine G_iconst (M := mL_seat) (v := 0) 16 rfl dL_seat_15 (by decide) ?_
    exact G_wret rfl dL_seat_16
abbrev mL_value : Mth := (yL_value, cL_value, 4, some .int)
abbrev hL_value : HT := [(0, 8, 11, 24)]
theorem D_L_value {g : Gx} {x1 : Int32} {I : MI} {L : ML} {res : (String ⊕ Int64) × MI × ML} (h : f_X11_value x1 I L = some res) {k : Int32} {L1 : ML} (hk : wkJ ["java/lang/IndexOutOfBoundsException"] res.1 res.2.2 = some (k, L1)) : EntW g 11 mL_value hL_value [.ref 0, .int x1, .ref 160] (I, L) k (res.2.1, L1) := by
  have hc := C_X11_value (g := g) h
  refine EntW_of (by decide +kernel) (Nat.le_of_ble_eq_true rfl) ?_
  show EG _ _ g 11 1 mL_value 0 [(0, .ref 0), (1, .int x1), (2, .ref 160)] [] (I, L)
  refine G_aload_n (M := mL_value) 1 rfl dL_value_0 rfl 2 rfl ?_
  refine G_iconst (M := mL_value) (v := 0) 2 rfl dL_value_1 (by decide) ?_
  refine G_aload_n (M := mL_value) 3 rfl dL_value_2 rfl 0 rfl ?_
  refine G_iload_n (M := mL_value) 4 rfl dL_value_3 rfl 1 rfl ?_
  rcases hr : res.1 with e9 | v9
  · rw [hr] at hc hk
    simp only [rJ, wkI, wkB, wkJ, wkE] at hc hk
    split at hk
    · rename_i he
      cases hk
      subst he
      exact G_callVX (M := mL_value) (As := [.int x1]) (st := [.int 0, .ref 160]) [] (0, 8, 11, 24) [] rfl dL_value_4 shz0 ckL_96 cvL_X11_value rfl (Nat.le_refl _) (by decide) hc rfl rfl (by decide) (fun z h => nomatch h) (fun z h => by rcases List.mem_cons.mp h with rfl | h; exact ⟨by decide, rfl, rfl⟩; exact nomatch h) (by decide) cle_24 (Or.inl ⟨_, _, dL_value_11, by decide, dL_value_12, by decide, dL_value_13⟩)
    · cases hk
  · rw [hr] at hc hk
    simp only [rJ, wkJ, bS] at hc hk
    cases hk
    refine G_cV1 (M := mL_value) (As := [.int x1]) (st := [.int 0, .ref 160]) 7 rfl dL_value_4 shz0 ckL_96 cvL_X11_value rfl (Nat.le_refl _) (by decide) hc rfl ?_
    refine G_last (M := mL_value) 8 rfl dL_value_7 sh160 inL0 ?_
    refine G_goto (M := mL_value) 14 (by decide) dL_value_8 ?_
    refine G_iconst (M := mL_value) (v := 0) 15 rfl dL_value_14 (by decide) ?_
    exact G_wret rfl dL_value_15
