def PL (g : Gx) (Ln : Nat) (xs : Nat → Int32) : Pz := fun _ R u args _ => R = room_1 ∧ args = #[Value.ref (g.2.2.2.2 67)] ∧ va_X (g.2.2.2.2 67) Ln xs u u.heap ∧ g.2.2.2.2 67 < g.1 ∧ g.1 = u.heap.size ∧ NC u
def QL : Qz := fun _ u args below => lw_Z below args u
abbrev mLaw : Mth := (yL_law, cL_law, 8, some .boolean)
abbrev lv5 (i : Int32) : List (Nat × Value) := [(0, .ref 200067), (1, .ref 0), (2, .ref 149), (3, .ref 160), (4, .int i)]
section
variable {Q : Qz} {g : Gx} {d b : Nat} {M : Mth} {pc : Nat} {lv lv' : List (Nat × Value)} {st : List Value} {s : St} {Ln : Nat} {xs : Nat → Int32}
theorem PL_nc : ∀ l R u args c, PL g Ln xs l R u args c → NC u := fun _ _ _ _ _ h => h.2.2.2.2.2
theorem G_slen (q : Nat) (hq : pc + 1 = q) (hd : decode M.2.1 pc = .ok (.arraylength, 1)) (k : EG (PL g Ln xs) Q g d b M q lv (.int (nI Ln) :: st) s) : EG (PL g Ln xs) Q g d b M pc lv (.ref 200067 :: st) s := by
  subst hq
  intro p l e R u m args below meth c H locs cells slots ls C hW hS hl h1 h2
  obtain ⟨-, -, hX, hb1, hb2, -⟩ := C.2.2.2.2.2.2.2.1
  exact va_slen C.1 C.2.1 hX (by rw [← hb2]; exact hb1) (Nat.not_le.mpr hb1) hS hd (k p l e R u m args below meth c H locs cells slots ls C hW hS hl h1 h2)
theorem G_sld {i : Nat} (hi : i < Ln) (hL : Ln ≤ 3072) (q : Nat) (hq : pc + 1 = q) (hd : decode M.2.1 pc = .ok (.iaload, 1)) (k : EG (PL g Ln xs) Q g d b M q lv (.int (xs i) :: st) s) : EG (PL g Ln xs) Q g d b M pc lv (.int (nI i) :: .ref 200067 :: st) s := by
  subst hq
  intro p l e R u m args below meth c H locs cells slots ls C hW hS hl h1 h2
  obtain ⟨-, -, hX, hb1, hb2, -⟩ := C.2.2.2.2.2.2.2.1
  refine va_sld C.1 C.2.1 hX (by rw [← hb2]; exact hb1) (Nat.not_le.mpr hb1) hS (vp_in_nI hi (by omega)) hd ?_
  rw [nI_clamp (by omega)]
  exact k p l e R u m args below meth c H locs cells slots ls C hW hS hl h1 h2
theorem G_arg {i : Nat} {n : Int} (j k : Nat) (q : Nat) (hq : pc + 6 = q) (d0 : decode M.2.1 pc = .ok (.aload_n 0, 1)) (d1 : decode M.2.1 (pc + 1) = .ok (.iload 4, 2)) (d3 : decode M.2.1 (pc + 3) = .ok (.iconst n, 1)) (d4 : decode M.2.1 (pc + 4) = .ok (.iadd, 1)) (d5 : decode M.2.1 (pc + 5) = .ok (.iaload, 1)) (h0 : lv[j]? = some (0, .ref 200067)) (h4 : lv[j + 4]? = some (4, .int (nI i))) (hn : Int32.ofInt n = nI k) (hi : i + k < Ln) (hL : Ln ≤ 3072) (kk : EG (PL g Ln xs) Q g d b M q lv (.int (xs (i + k)) :: st) s) : EG (PL g Ln xs) Q g d b M pc lv st s := by
  subst hq
  refine G_aload_n (pc + 1) rfl d0 rfl j h0 ?_
  refine G_iload (pc + 3) rfl d1 (j + 4) h4 ?_
  refine G_iconst (v := nI k) (pc + 4) rfl d3 hn ?_
  refine G_iadd (pc + 5) rfl d4 ?_
  rw [nI_add]
  exact G_sld hi hL (pc + 6) rfl d5 kk
theorem G_nz {P : Pz} {x : Int32} (q : Nat) (hq : pc + 8 = q) (d0 : decode M.2.1 pc = .ok (.ifCond .eq 7, 3)) (d3 : decode M.2.1 (pc + 3) = .ok (.iconst 1, 1)) (d4 : decode M.2.1 (pc + 4) = .ok (.goto 4, 3)) (d7 : decode M.2.1 (pc + 7) = .ok (.iconst 0, 1)) (kk : EG P Q g d b M q lv (.int (bI (x != 0)) :: st) s) : EG P Q g d b M pc lv (.int x :: st) s := by
  subst hq
  refine G_if_eq (pc + 7) (pc + 3) (by omega) rfl d0 (fun h => ?_) (fun h => ?_)
  · subst h
    exact G_iconst (v := 0) (pc + 8) rfl d7 (by decide) kk
  · have e : (x != 0) = true := by simp [h]
    rw [e] at kk
    refine G_iconst (v := 1) (pc + 4) rfl d3 (by decide) ?_
    exact G_goto (pc + 8) (by omega) d4 kk
/-- the end of the law -/
theorem G_true (hM : M = mLaw) (hd : decode cL_law pc = .ok (.ireturn, 1)) : EG (PL g Ln xs) QL g d b M pc lv [.int 1] s := by
  subst hM
  intro p l e R u m args below meth c H locs cells slots ls C hW hS hl h1 h2
  obtain ⟨hR, hargs, hX, hb1, hb2, -⟩ := C.2.2.2.2.2.2.2.1
  subst hR
  subst hargs
  refine va_forget (fun q hq => by have := hS.2.2 q hq; rw [← hb2]; exact this) ?_
  have h1' : cells + b ≤ 601024 := h1
  have h2' : slots + 8 * b ≤ 7293034 := h2
  refine W.widen (k := 601024) (n := 7293034) (by omega) (by omega) ?_
  exact lw_ret C.1 C.2.1 C.2.2.1 C.2.2.2.2.2.2.1 hd
end
/-! what one call of the script asks of the two sides -/
def SI (hs : List String) (ca : Option ((String ⊕ Int32) × MI × ML)) (cb : MI → ML → Option (Int32 × MI × ML)) (I' : MI) (L' : ML) : Prop :=
  ∃ ra k L1 rb, ca = some ra ∧ wkI hs ra.1 ra.2.2 = some (k, L1) ∧ cb ra.2.1 L1 = some rb ∧ f_X12_thrown rb.2.1 rb.2.2 = some k ∧ (k = 0 → rb.2.2 160 0 = rb.1.toInt64) ∧ rb.2.1 = I' ∧ rb.2.2 = L'
def SJ (hs : List String) (ca : Option ((String ⊕ Int64) × MI × ML)) (cb : MI → ML → Option (Int64 × MI × ML)) (I' : MI) (L' : ML) : Prop :=
  ∃ ra k L1 rb, ca = some ra ∧ wkJ hs ra.1 ra.2.2 = some (k, L1) ∧ cb ra.2.1 L1 = some rb ∧ f_X12_thrown rb.2.1 rb.2.2 = some k ∧ (k = 0 → rb.2.2 160 0 = rb.1) ∧ rb.2.1 = I' ∧ rb.2.2 = L'
def SB (hs : List String) (ca : Option ((String ⊕ Bool) × MI × ML)) (cb : MI → ML → Option (Bool × MI × ML)) (I' : MI) (L' : ML) : Prop :=
  ∃ ra k L1 rb, ca = some ra ∧ wkB hs ra.1 ra.2.2 = some (k, L1) ∧ cb ra.2.1 L1 = some rb ∧ f_X12_thrown rb.2.1 rb.2.2 = some k ∧ (k = 0 → rb.2.2 160 0 = (if rb.1 = true then 1 else 0)) ∧ rb.2.1 = I' ∧ rb.2.2 = L'
def SD {T : Type} (ca : Option (T × MI × ML)) (cb : MI → ML → Option (T × MI × ML)) (I' : MI) (L' : ML) : Prop :=
  ∃ ra rb, ca = some ra ∧ cb ra.2.1 ra.2.2 = some rb ∧ ra.1 = rb.1 ∧ rb.2.1 = I' ∧ rb.2.2 = L'
def SP (ca : Option Int32) (cb : Option (Int32 × MI × ML)) (I' : MI) (L' : ML) : Prop :=
  ∃ ra rb, ca = some ra ∧ cb = some rb ∧ ra = rb.1 ∧ rb.2.1 = I' ∧ rb.2.2 = L'
def SV (ca : Option (MI × ML)) (cb : MI → ML → Option (MI × ML)) (I' : MI) (L' : ML) : Prop :=
  ∃ ra rb, ca = some ra ∧ cb ra.1 ra.2 = some rb ∧ rb.1 = I' ∧ rb.2 = L' 
theorem ckW_113 : CKW RL 113 mL_house hL_house 2 := ⟨tg3 89 rfl rfl, tg1 0 rfl rfl, tg3 91 rfl rfl, ⟨by decide, by decide⟩, by decide +kernel, by decide, tg3 90 rfl rfl⟩
theorem ckW_122 : CKW RL 122 mL_will hL_will 2 := ⟨tg4 117 rfl rfl, tg1 0 rfl rfl, tg4 119 rfl rfl, ⟨by decide, by decide⟩, by decide +kernel, by decide, tg4 118 rfl rfl⟩
theorem ckW_129 : CKW RL 129 mL_room hL_room 4 := ⟨tg4 195 rfl rfl, tg1 0 rfl rfl, tg4 197 rfl rfl, ⟨by decide, by decide⟩, by decide +kernel, by decide, tg4 196 rfl rfl⟩
theorem ckW_133 : CKW RL 133 mL_heir hL_heir 4 := ⟨tg5 20 rfl rfl, tg1 0 rfl rfl, tg5 22 rfl rfl, ⟨by decide, by decide⟩, by decide +kernel, by decide, tg5 21 rfl rfl⟩
theorem ckW_136 : CKW RL 136 mL_noise hL_noise 4 := ⟨tg5 37 rfl rfl, tg1 0 rfl rfl, tg5 39 rfl rfl, ⟨by decide, by decide⟩, by decide +kernel, by decide, tg5 38 rfl rfl⟩
theorem ckW_139 : CKW RL 139 mL_cost hL_cost 4 := ⟨tg5 50 rfl rfl, tg1 0 rfl rfl, tg5 52 rfl rfl, ⟨by decide, by decide⟩, by decide +kernel, by decide, tg5 51 rfl rfl⟩
theorem ckW_142 : CKW RL 142 mL_at hL_at 4 := ⟨tg5 59 rfl rfl, tg1 0 rfl rfl, tg5 61 rfl rfl, ⟨by decide, by decide⟩, by decide +kernel, by decide, tg5 60 rfl rfl⟩
theorem ckW_145 : CKW RL 145 mL_title hL_title 4 := ⟨tg5 67 rfl rfl, tg1 0 rfl rfl, tg5 69 rfl rfl, ⟨by decide, by decide⟩, by decide +kernel, by decide, tg5 68 rfl rfl⟩
theorem ckW_148 : CKW RL 148 mL_part hL_part 5 := ⟨tg5 74 rfl rfl, tg1 0 rfl rfl, tg5 76 rfl rfl, ⟨by decide, by decide⟩, by decide +kernel, by decide, tg5 75 rfl rfl⟩
theorem ckW_152 : CKW RL 152 mL_hours hL_hours 3 := ⟨tg5 88 rfl rfl, tg1 0 rfl rfl, tg5 90 rfl rfl, ⟨by decide, by decide⟩, by decide +kernel, by decide, tg5 89 rfl rfl⟩
theorem ckW_156 : CKW RL 156 mL_go hL_go 4 := ⟨tg5 125 rfl rfl, tg1 0 rfl rfl, tg5 127 rfl rfl, ⟨by decide, by decide⟩, by decide +kernel, by decide, tg5 126 rfl rfl⟩
theorem ckW_159 : CKW RL 159 mL_make hL_make 3 := ⟨tg5 137 rfl rfl, tg1 0 rfl rfl, tg5 139 rfl rfl, ⟨by decide, by decide⟩, by decide +kernel, by decide, tg5 138 rfl rfl⟩
theorem ckW_162 : CKW RL 162 mL_oil hL_oil 4 := ⟨tg5 144 rfl rfl, tg1 0 rfl rfl, tg5 146 rfl rfl, ⟨by decide, by decide⟩, by decide +kernel, by decide, tg5 145 rfl rfl⟩
theorem ckW_165 : CKW RL 165 mL_carpet hL_carpet 4 := ⟨tg5 152 rfl rfl, tg1 0 rfl rfl, tg5 154 rfl rfl, ⟨by decide, by decide⟩, by decide +kernel, by decide, tg5 153 rfl rfl⟩
theorem ckW_173 : CKW RL 173 mL_odds hL_odds 5 := ⟨tg5 162 rfl rfl, tg1 0 rfl rfl, tg5 164 rfl rfl, ⟨by decide, by decide⟩, by decide +kernel, by decide, tg5 163 rfl rfl⟩
theorem ckW_176 : CKW RL 176 mL_likeliest hL_likeliest 4 := ⟨tg5 179 rfl rfl, tg1 0 rfl rfl, tg5 181 rfl rfl, ⟨by decide, by decide⟩, by decide +kernel, by decide, tg5 180 rfl rfl⟩
theorem ckW_179 : CKW RL 179 mL_due hL_due 4 := ⟨tg5 186 rfl rfl, tg1 0 rfl rfl, tg5 188 rfl rfl, ⟨by decide, by decide⟩, by decide +kernel, by decide, tg5 187 rfl rfl⟩
theorem ckW_182 : CKW RL 182 mL_quiet hL_quiet 5 := ⟨tg5 196 rfl rfl, tg1 0 rfl rfl, tg5 198 rfl rfl, ⟨by decide, by decide⟩, by decide +kernel, by decide, tg5 197 rfl rfl⟩
theorem ckW_185 : CKW RL 185 mL_suspects hL_suspects 3 := ⟨tg5 221 rfl rfl, tg1 0 rfl rfl, tg5 223 rfl rfl, ⟨by decide, by decide⟩, by decide +kernel, by decide, tg5 222 rfl rfl⟩
theorem ckW_188 : CKW RL 188 mL_ghost hL_ghost 3 := ⟨tg6 0 rfl rfl, tg1 0 rfl rfl, tg6 2 rfl rfl, ⟨by decide, by decide⟩, by decide +kernel, by decide, tg6 1 rfl rfl⟩
theorem ckW_191 : CKW RL 191 mL_breach hL_breach 4 := ⟨tg6 22 rfl rfl, tg1 0 rfl rfl, tg6 24 rfl rfl, ⟨by decide, by decide⟩, by decide +kernel, by decide, tg6 23 rfl rfl⟩
theorem ckW_194 : CKW RL 194 mL_silence hL_silence 6 := ⟨tg6 34 rfl rfl, tg1 0 rfl rfl, tg6 36 rfl rfl, ⟨by decide, by decide⟩, by decide +kernel, by decide, tg6 35 rfl rfl⟩
theorem ckW_198 : CKW RL 198 mL_ears hL_ears 4 := ⟨tg6 45 rfl rfl, tg1 0 rfl rfl, tg6 47 rfl rfl, ⟨by decide, by decide⟩, by decide +kernel, by decide, tg6 46 rfl rfl⟩
theorem ckW_201 : CKW RL 201 mL_seat hL_seat 3 := ⟨tg6 53 rfl rfl, tg1 0 rfl rfl, tg6 55 rfl rfl, ⟨by decide, by decide⟩, by decide +kernel, by decide, tg6 54 rfl rfl⟩
theorem ckW_204 : CKW RL 204 mL_value hL_value 3 := ⟨tg6 65 rfl rfl, tg1 0 rfl rfl, tg6 67 rfl rfl, ⟨by decide, by decide⟩, by decide +kernel, by decide, tg6 66 rfl rfl⟩
theorem B_feed {g : Gx} {Ln i b : Nat} {xs : Nat → Int32} (hi : i + 6 ≤ Ln) (hL : Ln ≤ 3072) {I I' : MI} {L L' : ML} (h : SD (f_X11_feed (xs (i + 1)) (xs (i + 2)) (xs (i + 3)) (xs (i + 4)) (xs (i + 5)) I L) (f_X12_feed (xs (i + 1)) (xs (i + 2)) (xs (i + 3)) (xs (i + 4)) (xs (i + 5))) I' L') (kk : EG (PL g Ln xs) QL g 53 b mLaw 2091 (lv5 (nI i)) [] (I', L')) : EG (PL g Ln xs) QL g 53 (b + 1) mLaw 192 (lv5 (nI i)) [] (I, L) := by
  obtain ⟨ra, rb, ha, hb, he, rfl, rfl⟩ := h
  refine G_less (b' := b) (Nat.le_succ b) ?_
  refine G_aload_n (M := mLaw) 193 rfl dL_law_192 rfl 1 rfl ?_
  refine G_arg (M := mLaw) 0 1 199 rfl dL_law_193 dL_law_194 dL_law_196 dL_law_197 dL_law_198 rfl rfl (by decide) (by omega) hL ?_
  refine G_arg (M := mLaw) 0 2 205 rfl dL_law_199 dL_law_200 dL_law_202 dL_law_203 dL_law_204 rfl rfl (by decide) (by omega) hL ?_
  refine G_arg (M := mLaw) 0 3 211 rfl dL_law_205 dL_law_206 dL_law_208 dL_law_209 dL_law_210 rfl rfl (by decide) (by omega) hL ?_
  refine G_arg (M := mLaw) 0 4 217 rfl dL_law_211 dL_law_212 dL_law_214 dL_law_215 dL_law_216 rfl rfl (by decide) (by omega) hL ?_
  refine G_arg (M := mLaw) 0 5 223 rfl dL_law_217 dL_law_218 dL_law_220 dL_law_221 dL_law_222 rfl rfl (by decide) (by omega) hL ?_
  refine G_cV1 (M := mLaw) (As := [.int (xs (i + 1)), .int (xs (i + 2)), .int (xs (i + 3)), .int (xs (i + 4)), .int (xs (i + 5))]) (st := []) 226 rfl dL_law_223 shz0 ckL_104 cvL_X11_feed rfl (by decide) (by decide) (C_X11_feed (g := g) ha) rfl ?_
  refine G_aload_n (M := mLaw) 227 rfl dL_law_226 rfl 2 rfl ?_
  refine G_arg (M := mLaw) 0 1 233 rfl dL_law_227 dL_law_228 dL_law_230 dL_law_231 dL_law_232 rfl rfl (by decide) (by omega) hL ?_
  refine G_arg (M := mLaw) 0 2 239 rfl dL_law_233 dL_law_234 dL_law_236 dL_law_237 dL_law_238 rfl rfl (by decide) (by omega) hL ?_
  refine G_arg (M := mLaw) 0 3 245 rfl dL_law_239 dL_law_240 dL_law_242 dL_law_243 dL_law_244 rfl rfl (by decide) (by omega) hL ?_
  refine G_arg (M := mLaw) 0 4 251 rfl dL_law_245 dL_law_246 dL_law_248 dL_law_249 dL_law_250 rfl rfl (by decide) (by omega) hL ?_
  refine G_arg (M := mLaw) 0 5 257 rfl dL_law_251 dL_law_252 dL_law_254 dL_law_255 dL_law_256 rfl rfl (by decide) (by omega) hL ?_
  refine G_cV1 (M := mLaw) (As := [.int (xs (i + 1)), .int (xs (i + 2)), .int (xs (i + 3)), .int (xs (i + 4)), .int (xs (i + 5))]) (st := [.int ra.1]) 260 rfl dL_law_257 shz149 ckL_108 cvL_X12_feed rfl (by decide) (Nat.le_of_ble_eq_true rfl) (C_X12_feed (g := g) hb) rfl ?_
  exact G_icmp_eq (M := mLaw) 2091 263 (by decide) rfl dL_law_260 (fun _ => kk) (fun h8 => absurd (by rw [he]) h8)
theorem B_end {g : Gx} {Ln i b : Nat} {xs : Nat → Int32} (hi : i + 6 ≤ Ln) (hL : Ln ≤ 3072) {I I' : MI} {L L' : ML} (h : SD (f_X11_end (xs (i + 1)) I L) (f_X12_end (xs (i + 1))) I' L') (kk : EG (PL g Ln xs) QL g 53 b mLaw 2091 (lv5 (nI i)) [] (I', L')) : EG (PL g Ln xs) QL g 53 (b + 1) mLaw 265 (lv5 (nI i)) [] (I, L) := by
  obtain ⟨ra, rb, ha, hb, he, rfl, rfl⟩ := h
  refine G_less (b' := b) (Nat.le_succ b) ?_
  refine G_aload_n (M := mLaw) 266 rfl dL_law_265 rfl 1 rfl ?_
  refine G_arg (M := mLaw) 0 1 272 rfl dL_law_266 dL_law_267 dL_law_269 dL_law_270 dL_law_271 rfl rfl (by decide) (by omega) hL ?_
  refine G_cV1 (M := mLaw) (As := [.int (xs (i + 1))]) (st := []) 275 rfl dL_law_272 shz0 ckL_109 cvL_X11_end rfl (by decide) (by decide) (C_X11_end (g := g) ha) rfl ?_
  refine G_aload_n (M := mLaw) 276 rfl dL_law_275 rfl 2 rfl ?_
  refine G_arg (M := mLaw) 0 1 282 rfl dL_law_276 dL_law_277 dL_law_279 dL_law_280 dL_law_281 rfl rfl (by decide) (by omega) hL ?_
  refine G_cV1 (M := mLaw) (As := [.int (xs (i + 1))]) (st := [.int (bI ra.1)]) 285 rfl dL_law_282 shz149 ckL_112 cvL_X12_end rfl (by decide) (Nat.le_of_ble_eq_true rfl) (C_X12_end (g := g) hb) rfl ?_
  exact G_icmp_eq (M := mLaw) 2091 288 (by decide) rfl dL_law_285 (fun _ => kk) (fun h8 => absurd (by rw [he]) h8)
theorem B_house {g : Gx} {Ln i b : Nat} {xs : Nat → Int32} (hi : i + 6 ≤ Ln) (hL : Ln ≤ 3072) {I I' : MI} {L L' : ML} (h : SI ["java/lang/IllegalArgumentException", "java/lang/UnsupportedOperationException"] (f_X11_house  I L) (f_X12_house ) I' L') (kk : EG (PL g Ln xs) QL g 53 b mLaw 2091 (lv5 (nI i)) [] (I', L')) : EG (PL g Ln xs) QL g 53 (b + 1) mLaw 290 (lv5 (nI i)) [] (I, L) := by
  obtain ⟨ra, k, L1, rb, ha, hk, hb, ht, h0, rfl, rfl⟩ := h
  refine G_aload_n (M := mLaw) 291 rfl dL_law_290 rfl 1 rfl ?_
  refine G_aload_n (M := mLaw) 292 rfl dL_law_291 rfl 3 rfl ?_
  refine G_callW (M := mLaw) (As := [.ref 0, .ref 160]) (st := []) PL_nc 295 rfl dL_law_292 ckW_113 rfl (by decide) (by decide) (D_L_house (g := g) ha hk) rfl ?_
  refine G_istore (M := mLaw) (lv' := (5, .int k) :: lv5 (nI i)) 297 rfl dL_law_295 (by decide) rfl ?_
  refine G_aload_n (M := mLaw) 298 rfl dL_law_297 rfl 3 rfl ?_
  refine G_cV1 (M := mLaw) (As := []) (st := []) 301 rfl dL_law_298 shz149 ckL_118 cvL_X12_house rfl (by decide) (by decide) (C_X12_house (g := g) hb) rfl ?_
  refine G_istore (M := mLaw) (lv' := (6, .int rb.1) :: (5, .int k) :: lv5 (nI i)) 303 rfl dL_law_301 (by decide) rfl ?_
  refine G_aload_n (M := mLaw) 304 rfl dL_law_303 rfl 4 rfl ?_
  refine G_cV1 (M := mLaw) (As := []) (st := []) 307 rfl dL_law_304 shz149 ckL_119 cvL_X12_thrown rfl (by decide) (by decide) (C_X12_thrown (g := g) ht) rfl ?_
  refine G_iload (M := mLaw) 309 rfl dL_law_307 1 rfl ?_
  refine G_icmp_eq (M := mLaw) 314 312 (by decide) rfl dL_law_309 (fun _ => ?_) (fun h9 => absurd rfl h9)
  refine G_iload (M := mLaw) 316 rfl dL_law_314 1 rfl ?_
  refine G_if_ne (M := mLaw) 331 319 (by decide) rfl dL_law_316 (fun _ => G_goto (M := mLaw) 2091 (by decide) dL_law_331 (G_sub [2, 3, 4, 5, 6] rfl kk)) (fun h9 => ?_)
  refine G_aload_n (M := mLaw) 320 rfl dL_law_319 rfl 5 rfl ?_
  refine G_iconst (M := mLaw) (v := 0) 321 rfl dL_law_320 (by decide) ?_
  refine G_lald (M := mLaw) 322 rfl dL_law_321 sh160 inL0 ?_
  refine G_iload (M := mLaw) 324 rfl dL_law_322 0 rfl ?_
  refine G_i2l (M := mLaw) 325 rfl dL_law_324 ?_
  exact G_lc_eq (M := mLaw) 331 326 329 (by decide) rfl rfl dL_law_325 dL_law_326 (fun _ => G_goto (M := mLaw) 2091 (by decide) dL_law_331 (G_sub [2, 3, 4, 5, 6] rfl kk)) (fun h8 => absurd (h0 h9) h8)
theorem B_will {g : Gx} {Ln i b : Nat} {xs : Nat → Int32} (hi : i + 6 ≤ Ln) (hL : Ln ≤ 3072) {I I' : MI} {L L' : ML} (h : SI ["java/lang/IllegalArgumentException"] (f_X11_will  I L) (f_X12_will ) I' L') (kk : EG (PL g Ln xs) QL g 53 b mLaw 2091 (lv5 (nI i)) [] (I', L')) : EG (PL g Ln xs) QL g 53 (b + 1) mLaw 334 (lv5 (nI i)) [] (I, L) := by
  obtain ⟨ra, k, L1, rb, ha, hk, hb, ht, h0, rfl, rfl⟩ := h
  refine G_aload_n (M := mLaw) 335 rfl dL_law_334 rfl 1 rfl ?_
  refine G_aload_n (M := mLaw) 336 rfl dL_law_335 rfl 3 rfl ?_
  refine G_callW (M := mLaw) (As := [.ref 0, .ref 160]) (st := []) PL_nc 339 rfl dL_law_336 ckW_122 rfl (by decide) (by decide) (D_L_will (g := g) ha hk) rfl ?_
  refine G_istore (M := mLaw) (lv' := (5, .int k) :: lv5 (nI i)) 341 rfl dL_law_339 (by decide) rfl ?_
  refine G_aload_n (M := mLaw) 342 rfl dL_law_341 rfl 3 rfl ?_
  refine G_cV1 (M := mLaw) (As := []) (st := []) 345 rfl dL_law_342 shz149 ckL_124 cvL_X12_will rfl (by decide) (by decide) (C_X12_will (g := g) hb) rfl ?_
  refine G_istore (M := mLaw) (lv' := (6, .int rb.1) :: (5, .int k) :: lv5 (nI i)) 347 rfl dL_law_345 (by decide) rfl ?_
  refine G_aload_n (M := mLaw) 348 rfl dL_law_347 rfl 4 rfl ?_
  refine G_cV1 (M := mLaw) (As := []) (st := []) 351 rfl dL_law_348 shz149 ckL_119 cvL_X12_thrown rfl (by decide) (by decide) (C_X12_thrown (g := g) ht) rfl ?_
  refine G_iload (M := mLaw) 353 rfl dL_law_351 1 rfl ?_
  refine G_icmp_eq (M := mLaw) 358 356 (by decide) rfl dL_law_353 (fun _ => ?_) (fun h9 => absurd rfl h9)
  refine G_iload (M := mLaw) 360 rfl dL_law_358 1 rfl ?_
  refine G_if_ne (M := mLaw) 375 363 (by decide) rfl dL_law_360 (fun _ => G_goto (M := mLaw) 2091 (by decide) dL_law_375 (G_sub [2, 3, 4, 5, 6] rfl kk)) (fun h9 => ?_)
  refine G_aload_n (M := mLaw) 364 rfl dL_law_363 rfl 5 rfl ?_
  refine G_iconst (M := mLaw) (v := 0) 365 rfl dL_law_364 (by decide) ?_
  refine G_lald (M := mLaw) 366 rfl dL_law_365 sh160 inL0 ?_
  refine G_iload (M := mLaw) 368 rfl dL_law_366 0 rfl ?_
  refine G_i2l (M := mLaw) 369 rfl dL_law_368 ?_
  exact G_lc_eq (M := mLaw) 375 370 373 (by decide) rfl rfl dL_law_369 dL_law_370 (fun _ => G_goto (M := mLaw) 2091 (by decide) dL_law_375 (G_sub [2, 3, 4, 5, 6] rfl kk)) (fun h8 => absurd (h0 h9) h8)
theorem B_fault {g : Gx} {Ln i b : Nat} {xs : Nat → Int32} (hi : i + 6 ≤ Ln) (hL : Ln ≤ 3072) {I I' : MI} {L L' : ML} (h : SP (f_X11_fault  I L) (f_X12_fault  I L) I' L') (kk : EG (PL g Ln xs) QL g 53 b mLaw 2091 (lv5 (nI i)) [] (I', L')) : EG (PL g Ln xs) QL g 53 (b + 1) mLaw 378 (lv5 (nI i)) [] (I, L) := by
  obtain ⟨ra, rb, ha, hb, he, rfl, rfl⟩ := h
  refine G_less (b' := b) (Nat.le_succ b) ?_
  refine G_aload_n (M := mLaw) 379 rfl dL_law_378 rfl 1 rfl ?_
  refine G_cV1 (M := mLaw) (As := []) (st := []) 382 rfl dL_law_379 shz0 ckL_125 cvL_X11_fault rfl (by decide) (by decide) (C_X11_fault (g := g) ha) rfl ?_
  refine G_aload_n (M := mLaw) 383 rfl dL_law_382 rfl 2 rfl ?_
  refine G_cV1 (M := mLaw) (As := []) (st := [.int ra]) 386 rfl dL_law_383 shz149 ckL_128 cvL_X12_fault rfl (by decide) (Nat.le_of_ble_eq_true rfl) (C_X12_fault (g := g) hb) rfl ?_
  exact G_icmp_eq (M := mLaw) 2091 389 (by decide) rfl dL_law_386 (fun _ => kk) (fun h8 => absurd (by rw [he]) h8)
theorem B_room {g : Gx} {Ln i b : Nat} {xs : Nat → Int32} (hi : i + 6 ≤ Ln) (hL : Ln ≤ 3072) {I I' : MI} {L L' : ML} (h : SI ["java/lang/IndexOutOfBoundsException", "java/util/NoSuchElementException"] (f_X11_room (xs (i + 1)) (xs (i + 2)) I L) (f_X12_room (xs (i + 1)) (xs (i + 2))) I' L') (kk : EG (PL g Ln xs) QL g 53 b mLaw 2091 (lv5 (nI i)) [] (I', L')) : EG (PL g Ln xs) QL g 53 (b + 1) mLaw 391 (lv5 (nI i)) [] (I, L) := by
  obtain ⟨ra, k, L1, rb, ha, hk, hb, ht, h0, rfl, rfl⟩ := h
  refine G_aload_n (M := mLaw) 392 rfl dL_law_391 rfl 1 rfl ?_
  refine G_arg (M := mLaw) 0 1 398 rfl dL_law_392 dL_law_393 dL_law_395 dL_law_396 dL_law_397 rfl rfl (by decide) (by omega) hL ?_
  refine G_arg (M := mLaw) 0 2 404 rfl dL_law_398 dL_law_399 dL_law_401 dL_law_402 dL_law_403 rfl rfl (by decide) (by omega) hL ?_
  refine G_aload_n (M := mLaw) 405 rfl dL_law_404 rfl 3 rfl ?_
  refine G_callW (M := mLaw) (As := [.ref 0, .int (xs (i + 1)), .int (xs (i + 2)), .ref 160]) (st := []) PL_nc 408 rfl dL_law_405 ckW_129 rfl (by decide) (by decide) (D_L_room (g := g) ha hk) rfl ?_
  refine G_istore (M := mLaw) (lv' := (5, .int k) :: lv5 (nI i)) 410 rfl dL_law_408 (by decide) rfl ?_
  refine G_aload_n (M := mLaw) 411 rfl dL_law_410 rfl 3 rfl ?_
  refine G_arg (M := mLaw) 1 1 417 rfl dL_law_411 dL_law_412 dL_law_414 dL_law_415 dL_law_416 rfl rfl (by decide) (by omega) hL ?_
  refine G_arg (M := mLaw) 1 2 423 rfl dL_law_417 dL_law_418 dL_law_420 dL_law_421 dL_law_422 rfl rfl (by decide) (by omega) hL ?_
  refine G_cV1 (M := mLaw) (As := [.int (xs (i + 1)), .int (xs (i + 2))]) (st := []) 426 rfl dL_law_423 shz149 ckL_132 cvL_X12_room rfl (by decide) (by decide) (C_X12_room (g := g) hb) rfl ?_
  refine G_istore (M := mLaw) (lv' := (6, .int rb.1) :: (5, .int k) :: lv5 (nI i)) 428 rfl dL_law_426 (by decide) rfl ?_
  refine G_aload_n (M := mLaw) 429 rfl dL_law_428 rfl 4 rfl ?_
  refine G_cV1 (M := mLaw) (As := []) (st := []) 432 rfl dL_law_429 shz149 ckL_119 cvL_X12_thrown rfl (by decide) (by decide) (C_X12_thrown (g := g) ht) rfl ?_
  refine G_iload (M := mLaw) 434 rfl dL_law_432 1 rfl ?_
  refine G_icmp_eq (M := mLaw) 439 437 (by decide) rfl dL_law_434 (fun _ => ?_) (fun h9 => absurd rfl h9)
  refine G_iload (M := mLaw) 441 rfl dL_law_439 1 rfl ?_
  refine G_if_ne (M := mLaw) 456 444 (by decide) rfl dL_law_441 (fun _ => G_goto (M := mLaw) 2091 (by decide) dL_law_456 (G_sub [2, 3, 4, 5, 6] rfl kk)) (fun h9 => ?_)
  refine G_aload_n (M := mLaw) 445 rfl dL_law_444 rfl 5 rfl ?_
  refine G_iconst (M := mLaw) (v := 0) 446 rfl dL_law_445 (by decide) ?_
  refine G_lald (M := mLaw) 447 rfl dL_law_446 sh160 inL0 ?_
  refine G_iload (M := mLaw) 449 rfl dL_law_447 0 rfl ?_
  refine G_i2l (M := mLaw) 450 rfl dL_law_449 ?_
  exact G_lc_eq (M := mLaw) 456 451 454 (by decide) rfl rfl dL_law_450 dL_law_451 (fun _ => G_goto (M := mLaw) 2091 (by decide) dL_law_456 (G_sub [2, 3, 4, 5, 6] rfl kk)) (fun h8 => absurd (h0 h9) h8)
theorem B_heir {g : Gx} {Ln i b : Nat} {xs : Nat → Int32} (hi : i + 6 ≤ Ln) (hL : Ln ≤ 3072) {I I' : MI} {L L' : ML} (h : SI ["java/lang/IndexOutOfBoundsException", "java/util/NoSuchElementException"] (f_X11_heir (xs (i + 1)) (xs (i + 2)) I L) (f_X12_heir (xs (i + 1)) (xs (i + 2))) I' L') (kk : EG (PL g Ln xs) QL g 53 b mLaw 2091 (lv5 (nI i)) [] (I', L')) : EG (PL g Ln xs) QL g 53 (b + 1) mLaw 459 (lv5 (nI i)) [] (I, L) := by
  obtain ⟨ra, k, L1, rb, ha, hk, hb, ht, h0, rfl, rfl⟩ := h
  refine G_aload_n (M := mLaw) 460 rfl dL_law_459 rfl 1 rfl ?_
  refine G_arg (M := mLaw) 0 1 466 rfl dL_law_460 dL_law_461 dL_law_463 dL_law_464 dL_law_465 rfl rfl (by decide) (by omega) hL ?_
  refine G_arg (M := mLaw) 0 2 472 rfl dL_law_466 dL_law_467 dL_law_469 dL_law_470 dL_law_471 rfl rfl (by decide) (by omega) hL ?_
  refine G_aload_n (M := mLaw) 473 rfl dL_law_472 rfl 3 rfl ?_
  refine G_callW (M := mLaw) (As := [.ref 0, .int (xs (i + 1)), .int (xs (i + 2)), .ref 160]) (st := []) PL_nc 476 rfl dL_law_473 ckW_133 rfl (by decide) (by decide) (D_L_heir (g := g) ha hk) rfl ?_
  refine G_istore (M := mLaw) (lv' := (5, .int k) :: lv5 (nI i)) 478 rfl dL_law_476 (by decide) rfl ?_
  refine G_aload_n (M := mLaw) 479 rfl dL_law_478 rfl 3 rfl ?_
  refine G_arg (M := mLaw) 1 1 485 rfl dL_law_479 dL_law_480 dL_law_482 dL_law_483 dL_law_484 rfl rfl (by decide) (by omega) hL ?_
  refine G_arg (M := mLaw) 1 2 491 rfl dL_law_485 dL_law_486 dL_law_488 dL_law_489 dL_law_490 rfl rfl (by decide) (by omega) hL ?_
  refine G_cV1 (M := mLaw) (As := [.int (xs (i + 1)), .int (xs (i + 2))]) (st := []) 494 rfl dL_law_491 shz149 ckL_135 cvL_X12_heir rfl (by decide) (by decide) (C_X12_heir (g := g) hb) rfl ?_
  refine G_istore (M := mLaw) (lv' := (6, .int rb.1) :: (5, .int k) :: lv5 (nI i)) 496 rfl dL_law_494 (by decide) rfl ?_
  refine G_aload_n (M := mLaw) 497 rfl dL_law_496 rfl 4 rfl ?_
  refine G_cV1 (M := mLaw) (As := []) (st := []) 500 rfl dL_law_497 shz149 ckL_119 cvL_X12_thrown rfl (by decide) (by decide) (C_X12_thrown (g := g) ht) rfl ?_
  refine G_iload (M := mLaw) 502 rfl dL_law_500 1 rfl ?_
  refine G_icmp_eq (M := mLaw) 507 505 (by decide) rfl dL_law_502 (fun _ => ?_) (fun h9 => absurd rfl h9)
  refine G_iload (M := mLaw) 509 rfl dL_law_507 1 rfl ?_
  refine G_if_ne (M := mLaw) 524 512 (by decide) rfl dL_law_509 (fun _ => G_goto (M := mLaw) 2091 (by decide) dL_law_524 (G_sub [2, 3, 4, 5, 6] rfl kk)) (fun h9 => ?_)
  refine G_aload_n (M := mLaw) 513 rfl dL_law_512 rfl 5 rfl ?_
  refine G_iconst (M := mLaw) (v := 0) 514 rfl dL_law_513 (by decide) ?_
  refine G_lald (M := mLaw) 515 rfl dL_law_514 sh160 inL0 ?_
  refine G_iload (M := mLaw) 517 rfl dL_law_515 0 rfl ?_
  refine G_i2l (M := mLaw) 518 rfl dL_law_517 ?_
  exact G_lc_eq (M := mLaw) 524 519 522 (by decide) rfl rfl dL_law_518 dL_law_519 (fun _ => G_goto (M := mLaw) 2091 (by decide) dL_law_524 (G_sub [2, 3, 4, 5, 6] rfl kk)) (fun h8 => absurd (h0 h9) h8)
theorem B_noise {g : Gx} {Ln i b : Nat} {xs : Nat → Int32} (hi : i + 6 ≤ Ln) (hL : Ln ≤ 3072) {I I' : MI} {L L' : ML} (h : SI ["java/lang/IndexOutOfBoundsException", "java/util/NoSuchElementException"] (f_X11_noise (xs (i + 1)) (xs (i + 2)) I L) (f_X12_noise (xs (i + 1)) (xs (i + 2))) I' L') (kk : EG (PL g Ln xs) QL g 53 b mLaw 2091 (lv5 (nI i)) [] (I', L')) : EG (PL g Ln xs) QL g 53 (b + 1) mLaw 527 (lv5 (nI i)) [] (I, L) := by
  obtain ⟨ra, k, L1, rb, ha, hk, hb, ht, h0, rfl, rfl⟩ := h
  refine G_aload_n (M := mLaw) 528 rfl dL_law_527 rfl 1 rfl ?_
  refine G_arg (M := mLaw) 0 1 534 rfl dL_law_528 dL_law_529 dL_law_531 dL_law_532 dL_law_533 rfl rfl (by decide) (by omega) hL ?_
  refine G_arg (M := mLaw) 0 2 540 rfl dL_law_534 dL_law_535 dL_law_537 dL_law_538 dL_law_539 rfl rfl (by decide) (by omega) hL ?_
  refine G_aload_n (M := mLaw) 541 rfl dL_law_540 rfl 3 rfl ?_
  refine G_callW (M := mLaw) (As := [.ref 0, .int (xs (i + 1)), .int (xs (i + 2)), .ref 160]) (st := []) PL_nc 544 rfl dL_law_541 ckW_136 rfl (by decide) (by decide) (D_L_noise (g := g) ha hk) rfl ?_
  refine G_istore (M := mLaw) (lv' := (5, .int k) :: lv5 (nI i)) 546 rfl dL_law_544 (by decide) rfl ?_
  refine G_aload_n (M := mLaw) 547 rfl dL_law_546 rfl 3 rfl ?_
  refine G_arg (M := mLaw) 1 1 553 rfl dL_law_547 dL_law_548 dL_law_550 dL_law_551 dL_law_552 rfl rfl (by decide) (by omega) hL ?_
  refine G_arg (M := mLaw) 1 2 559 rfl dL_law_553 dL_law_554 dL_law_556 dL_law_557 dL_law_558 rfl rfl (by decide) (by omega) hL ?_
  refine G_cV1 (M := mLaw) (As := [.int (xs (i + 1)), .int (xs (i + 2))]) (st := []) 562 rfl dL_law_559 shz149 ckL_138 cvL_X12_noise rfl (by decide) (by decide) (C_X12_noise (g := g) hb) rfl ?_
  refine G_istore (M := mLaw) (lv' := (6, .int rb.1) :: (5, .int k) :: lv5 (nI i)) 564 rfl dL_law_562 (by decide) rfl ?_
  refine G_aload_n (M := mLaw) 565 rfl dL_law_564 rfl 4 rfl ?_
  refine G_cV1 (M := mLaw) (As := []) (st := []) 568 rfl dL_law_565 shz149 ckL_119 cvL_X12_thrown rfl (by decide) (by decide) (C_X12_thrown (g := g) ht) rfl ?_
  refine G_iload (M := mLaw) 570 rfl dL_law_568 1 rfl ?_
  refine G_icmp_eq (M := mLaw) 575 573 (by decide) rfl dL_law_570 (fun _ => ?_) (fun h9 => absurd rfl h9)
  refine G_iload (M := mLaw) 577 rfl dL_law_575 1 rfl ?_
  refine G_if_ne (M := mLaw) 592 580 (by decide) rfl dL_law_577 (fun _ => G_goto (M := mLaw) 2091 (by decide) dL_law_592 (G_sub [2, 3, 4, 5, 6] rfl kk)) (fun h9 => ?_)
  refine G_aload_n (M := mLaw) 581 rfl dL_law_580 rfl 5 rfl ?_
  refine G_iconst (M := mLaw) (v := 0) 582 rfl dL_law_581 (by decide) ?_
  refine G_lald (M := mLaw) 583 rfl dL_law_582 sh160 inL0 ?_
  refine G_iload (M := mLaw) 585 rfl dL_law_583 0 rfl ?_
  refine G_i2l (M := mLaw) 586 rfl dL_law_585 ?_
  exact G_lc_eq (M := mLaw) 592 587 590 (by decide) rfl rfl dL_law_586 dL_law_587 (fun _ => G_goto (M := mLaw) 2091 (by decide) dL_law_592 (G_sub [2, 3, 4, 5, 6] rfl kk)) (fun h8 => absurd (h0 h9) h8)
theorem B_cost {g : Gx} {Ln i b : Nat} {xs : Nat → Int32} (hi : i + 6 ≤ Ln) (hL : Ln ≤ 3072) {I I' : MI} {L L' : ML} (h : SI ["java/lang/IndexOutOfBoundsException"] (f_X11_cost (xs (i + 1)) (xs (i + 2)) I L) (f_X12_cost (xs (i + 1)) (xs (i + 2))) I' L') (kk : EG (PL g Ln xs) QL g 53 b mLaw 2091 (lv5 (nI i)) [] (I', L')) : EG (PL g Ln xs) QL g 53 (b + 1) mLaw 595 (lv5 (nI i)) [] (I, L) := by
  obtain ⟨ra, k, L1, rb, ha, hk, hb, ht, h0, rfl, rfl⟩ := h
  refine G_aload_n (M := mLaw) 596 rfl dL_law_595 rfl 1 rfl ?_
  refine G_arg (M := mLaw) 0 1 602 rfl dL_law_596 dL_law_597 dL_law_599 dL_law_600 dL_law_601 rfl rfl (by decide) (by omega) hL ?_
  refine G_arg (M := mLaw) 0 2 608 rfl dL_law_602 dL_law_603 dL_law_605 dL_law_606 dL_law_607 rfl rfl (by decide) (by omega) hL ?_
  refine G_aload_n (M := mLaw) 609 rfl dL_law_608 rfl 3 rfl ?_
  refine G_callW (M := mLaw) (As := [.ref 0, .int (xs (i + 1)), .int (xs (i + 2)), .ref 160]) (st := []) PL_nc 612 rfl dL_law_609 ckW_139 rfl (by decide) (by decide) (D_L_cost (g := g) ha hk) rfl ?_
  refine G_istore (M := mLaw) (lv' := (5, .int k) :: lv5 (nI i)) 614 rfl dL_law_612 (by decide) rfl ?_
  refine G_aload_n (M := mLaw) 615 rfl dL_law_614 rfl 3 rfl ?_
  refine G_arg (M := mLaw) 1 1 621 rfl dL_law_615 dL_law_616 dL_law_618 dL_law_619 dL_law_620 rfl rfl (by decide) (by omega) hL ?_
  refine G_arg (M := mLaw) 1 2 627 rfl dL_law_621 dL_law_622 dL_law_624 dL_law_625 dL_law_626 rfl rfl (by decide) (by omega) hL ?_
  refine G_cV1 (M := mLaw) (As := [.int (xs (i + 1)), .int (xs (i + 2))]) (st := []) 630 rfl dL_law_627 shz149 ckL_141 cvL_X12_cost rfl (by decide) (by decide) (C_X12_cost (g := g) hb) rfl ?_
  refine G_istore (M := mLaw) (lv' := (6, .int rb.1) :: (5, .int k) :: lv5 (nI i)) 632 rfl dL_law_630 (by decide) rfl ?_
  refine G_aload_n (M := mLaw) 633 rfl dL_law_632 rfl 4 rfl ?_
  refine G_cV1 (M := mLaw) (As := []) (st := []) 636 rfl dL_law_633 shz149 ckL_119 cvL_X12_thrown rfl (by decide) (by decide) (C_X12_thrown (g := g) ht) rfl ?_
  refine G_iload (M := mLaw) 638 rfl dL_law_636 1 rfl ?_
  refine G_icmp_eq (M := mLaw) 643 641 (by decide) rfl dL_law_638 (fun _ => ?_) (fun h9 => absurd rfl h9)
  refine G_iload (M := mLaw) 645 rfl dL_law_643 1 rfl ?_
  refine G_if_ne (M := mLaw) 660 648 (by decide) rfl dL_law_645 (fun _ => G_goto (M := mLaw) 2091 (by decide) dL_law_660 (G_sub [2, 3, 4, 5, 6] rfl kk)) (fun h9 => ?_)
  refine G_aload_n (M := mLaw) 649 rfl dL_law_648 rfl 5 rfl ?_
  refine G_iconst (M := mLaw) (v := 0) 650 rfl dL_law_649 (by decide) ?_
  refine G_lald (M := mLaw) 651 rfl dL_law_650 sh160 inL0 ?_
  refine G_iload (M := mLaw) 653 rfl dL_law_651 0 rfl ?_
  refine G_i2l (M := mLaw) 654 rfl dL_law_653 ?_
  exact G_lc_eq (M := mLaw) 660 655 658 (by decide) rfl rfl dL_law_654 dL_law_655 (fun _ => G_goto (M := mLaw) 2091 (by decide) dL_law_660 (G_sub [2, 3, 4, 5, 6] rfl kk)) (fun h8 => absurd (h0 h9) h8)
theorem B_at {g : Gx} {Ln i b : Nat} {xs : Nat → Int32} (hi : i + 6 ≤ Ln) (hL : Ln ≤ 3072) {I I' : MI} {L L' : ML} (h : SI ["java/lang/IndexOutOfBoundsException"] (f_X11_at (xs (i + 1)) (xs (i + 2)) I L) (f_X12_at (xs (i + 1)) (xs (i + 2))) I' L') (kk : EG (PL g Ln xs) QL g 53 b mLaw 2091 (lv5 (nI i)) [] (I', L')) : EG (PL g Ln xs) QL g 53 (b + 1) mLaw 663 (lv5 (nI i)) [] (I, L) := by
  obtain ⟨ra, k, L1, rb, ha, hk, hb, ht, h0, rfl, rfl⟩ := h
  refine G_aload_n (M := mLaw) 664 rfl dL_law_663 rfl 1 rfl ?_
  refine G_arg (M := mLaw) 0 1 670 rfl dL_law_664 dL_law_665 dL_law_667 dL_law_668 dL_law_669 rfl rfl (by decide) (by omega) hL ?_
  refine G_arg (M := mLaw) 0 2 676 rfl dL_law_670 dL_law_671 dL_law_673 dL_law_674 dL_law_675 rfl rfl (by decide) (by omega) hL ?_
  refine G_aload_n (M := mLaw) 677 rfl dL_law_676 rfl 3 rfl ?_
  refine G_callW (M := mLaw) (As := [.ref 0, .int (xs (i + 1)), .int (xs (i + 2)), .ref 160]) (st := []) PL_nc 680 rfl dL_law_677 ckW_142 rfl (by decide) (by decide) (D_L_at (g := g) ha hk) rfl ?_
  refine G_istore (M := mLaw) (lv' := (5, .int k) :: lv5 (nI i)) 682 rfl dL_law_680 (by decide) rfl ?_
  refine G_aload_n (M := mLaw) 683 rfl dL_law_682 rfl 3 rfl ?_
  refine G_arg (M := mLaw) 1 1 689 rfl dL_law_683 dL_law_684 dL_law_686 dL_law_687 dL_law_688 rfl rfl (by decide) (by omega) hL ?_
  refine G_arg (M := mLaw) 1 2 695 rfl dL_law_689 dL_law_690 dL_law_692 dL_law_693 dL_law_694 rfl rfl (by decide) (by omega) hL ?_
  refine G_cV1 (M := mLaw) (As := [.int (xs (i + 1)), .int (xs (i + 2))]) (st := []) 698 rfl dL_law_695 shz149 ckL_144 cvL_X12_at rfl (by decide) (by decide) (C_X12_at (g := g) hb) rfl ?_
  refine G_istore (M := mLaw) (lv' := (6, .int rb.1) :: (5, .int k) :: lv5 (nI i)) 700 rfl dL_law_698 (by decide) rfl ?_
  refine G_aload_n (M := mLaw) 701 rfl dL_law_700 rfl 4 rfl ?_
  refine G_cV1 (M := mLaw) (As := []) (st := []) 704 rfl dL_law_701 shz149 ckL_119 cvL_X12_thrown rfl (by decide) (by decide) (C_X12_thrown (g := g) ht) rfl ?_
  refine G_iload (M := mLaw) 706 rfl dL_law_704 1 rfl ?_
  refine G_icmp_eq (M := mLaw) 711 709 (by decide) rfl dL_law_706 (fun _ => ?_) (fun h9 => absurd rfl h9)
  refine G_iload (M := mLaw) 713 rfl dL_law_711 1 rfl ?_
  refine G_if_ne (M := mLaw) 728 716 (by decide) rfl dL_law_713 (fun _ => G_goto (M := mLaw) 2091 (by decide) dL_law_728 (G_sub [2, 3, 4, 5, 6] rfl kk)) (fun h9 => ?_)
  refine G_aload_n (M := mLaw) 717 rfl dL_law_716 rfl 5 rfl ?_
  refine G_iconst (M := mLaw) (v := 0) 718 rfl dL_law_717 (by decide) ?_
  refine G_lald (M := mLaw) 719 rfl dL_law_718 sh160 inL0 ?_
  refine G_iload (M := mLaw) 721 rfl dL_law_719 0 rfl ?_
  refine G_i2l (M := mLaw) 722 rfl dL_law_721 ?_
  exact G_lc_eq (M := mLaw) 728 723 726 (by decide) rfl rfl dL_law_722 dL_law_723 (fun _ => G_goto (M := mLaw) 2091 (by decide) dL_law_728 (G_sub [2, 3, 4, 5, 6] rfl kk)) (fun h8 => absurd (h0 h9) h8)
theorem B_title {g : Gx} {Ln i b : Nat} {xs : Nat → Int32} (hi : i + 6 ≤ Ln) (hL : Ln ≤ 3072) {I I' : MI} {L L' : ML} (h : SI ["java/lang/IndexOutOfBoundsException"] (f_X11_title (xs (i + 1)) (xs (i + 2)) I L) (f_X12_title (xs (i + 1)) (xs (i + 2))) I' L') (kk : EG (PL g Ln xs) QL g 53 b mLaw 2091 (lv5 (nI i)) [] (I', L')) : EG (PL g Ln xs) QL g 53 (b + 1) mLaw 731 (lv5 (nI i)) [] (I, L) := by
  obtain ⟨ra, k, L1, rb, ha, hk, hb, ht, h0, rfl, rfl⟩ := h
  refine G_aload_n (M := mLaw) 732 rfl dL_law_731 rfl 1 rfl ?_
  refine G_arg (M := mLaw) 0 1 738 rfl dL_law_732 dL_law_733 dL_law_735 dL_law_736 dL_law_737 rfl rfl (by decide) (by omega) hL ?_
  refine G_arg (M := mLaw) 0 2 744 rfl dL_law_738 dL_law_739 dL_law_741 dL_law_742 dL_law_743 rfl rfl (by decide) (by omega) hL ?_
  refine G_aload_n (M := mLaw) 745 rfl dL_law_744 rfl 3 rfl ?_
  refine G_callW (M := mLaw) (As := [.ref 0, .int (xs (i + 1)), .int (xs (i + 2)), .ref 160]) (st := []) PL_nc 748 rfl dL_law_745 ckW_145 rfl (by decide) (by decide) (D_L_title (g := g) ha hk) rfl ?_
  refine G_istore (M := mLaw) (lv' := (5, .int k) :: lv5 (nI i)) 750 rfl dL_law_748 (by decide) rfl ?_
  refine G_aload_n (M := mLaw) 751 rfl dL_law_750 rfl 3 rfl ?_
  refine G_arg (M := mLaw) 1 1 757 rfl dL_law_751 dL_law_752 dL_law_754 dL_law_755 dL_law_756 rfl rfl (by decide) (by omega) hL ?_
  refine G_arg (M := mLaw) 1 2 763 rfl dL_law_757 dL_law_758 dL_law_760 dL_law_761 dL_law_762 rfl rfl (by decide) (by omega) hL ?_
  refine G_cV1 (M := mLaw) (As := [.int (xs (i + 1)), .int (xs (i + 2))]) (st := []) 766 rfl dL_law_763 shz149 ckL_147 cvL_X12_title rfl (by decide) (by decide) (C_X12_title (g := g) hb) rfl ?_
  refine G_istore (M := mLaw) (lv' := (6, .int rb.1) :: (5, .int k) :: lv5 (nI i)) 768 rfl dL_law_766 (by decide) rfl ?_
  refine G_aload_n (M := mLaw) 769 rfl dL_law_768 rfl 4 rfl ?_
  refine G_cV1 (M := mLaw) (As := []) (st := []) 772 rfl dL_law_769 shz149 ckL_119 cvL_X12_thrown rfl (by decide) (by decide) (C_X12_thrown (g := g) ht) rfl ?_
  refine G_iload (M := mLaw) 774 rfl dL_law_772 1 rfl ?_
  refine G_icmp_eq (M := mLaw) 779 777 (by decide) rfl dL_law_774 (fun _ => ?_) (fun h9 => absurd rfl h9)
  refine G_iload (M := mLaw) 781 rfl dL_law_779 1 rfl ?_
  refine G_if_ne (M := mLaw) 796 784 (by decide) rfl dL_law_781 (fun _ => G_goto (M := mLaw) 2091 (by decide) dL_law_796 (G_sub [2, 3, 4, 5, 6] rfl kk)) (fun h9 => ?_)
  refine G_aload_n (M := mLaw) 785 rfl dL_law_784 rfl 5 rfl ?_
  refine G_iconst (M := mLaw) (v := 0) 786 rfl dL_law_785 (by decide) ?_
  refine G_lald (M := mLaw) 787 rfl dL_law_786 sh160 inL0 ?_
  refine G_iload (M := mLaw) 789 rfl dL_law_787 0 rfl ?_
  refine G_i2l (M := mLaw) 790 rfl dL_law_789 ?_
  exact G_lc_eq (M := mLaw) 796 791 794 (by decide) rfl rfl dL_law_790 dL_law_791 (fun _ => G_goto (M := mLaw) 2091 (by decide) dL_law_796 (G_sub [2, 3, 4, 5, 6] rfl kk)) (fun h8 => absurd (h0 h9) h8)
theorem B_part {g : Gx} {Ln i b : Nat} {xs : Nat → Int32} (hi : i + 6 ≤ Ln) (hL : Ln ≤ 3072) {I I' : MI} {L L' : ML} (h : SI ["java/lang/IndexOutOfBoundsException", "java/lang/IllegalArgumentException"] (f_X11_part (xs (i + 1)) (xs (i + 2)) (xs (i + 3)) I L) (f_X12_part (xs (i + 1)) (xs (i + 2)) (xs (i + 3))) I' L') (kk : EG (PL g Ln xs) QL g 53 b mLaw 2091 (lv5 (nI i)) [] (I', L')) : EG (PL g Ln xs) QL g 53 (b + 1) mLaw 799 (lv5 (nI i)) [] (I, L) := by
  obtain ⟨ra, k, L1, rb, ha, hk, hb, ht, h0, rfl, rfl⟩ := h
  refine G_aload_n (M := mLaw) 800 rfl dL_law_799 rfl 1 rfl ?_
  refine G_arg (M := mLaw) 0 1 806 rfl dL_law_800 dL_law_801 dL_law_803 dL_law_804 dL_law_805 rfl rfl (by decide) (by omega) hL ?_
  refine G_arg (M := mLaw) 0 2 812 rfl dL_law_806 dL_law_807 dL_law_809 dL_law_810 dL_law_811 rfl rfl (by decide) (by omega) hL ?_
  refine G_arg (M := mLaw) 0 3 818 rfl dL_law_812 dL_law_813 dL_law_815 dL_law_816 dL_law_817 rfl rfl (by decide) (by omega) hL ?_
  refine G_aload_n (M := mLaw) 819 rfl dL_law_818 rfl 3 rfl ?_
  refine G_callW (M := mLaw) (As := [.ref 0, .int (xs (i + 1)), .int (xs (i + 2)), .int (xs (i + 3)), .ref 160]) (st := []) PL_nc 822 rfl dL_law_819 ckW_148 rfl (by decide) (by decide) (D_L_part (g := g) ha hk) rfl ?_
  refine G_istore (M := mLaw) (lv' := (5, .int k) :: lv5 (nI i)) 824 rfl dL_law_822 (by decide) rfl ?_
  refine G_aload_n (M := mLaw) 825 rfl dL_law_824 rfl 3 rfl ?_
  refine G_arg (M := mLaw) 1 1 831 rfl dL_law_825 dL_law_826 dL_law_828 dL_law_829 dL_law_830 rfl rfl (by decide) (by omega) hL ?_
  refine G_arg (M := mLaw) 1 2 837 rfl dL_law_831 dL_law_832 dL_law_834 dL_law_835 dL_law_836 rfl rfl (by decide) (by omega) hL ?_
  refine G_arg (M := mLaw) 1 3 843 rfl dL_law_837 dL_law_838 dL_law_840 dL_law_841 dL_law_842 rfl rfl (by decide) (by omega) hL ?_
  refine G_cV1 (M := mLaw) (As := [.int (xs (i + 1)), .int (xs (i + 2)), .int (xs (i + 3))]) (st := []) 846 rfl dL_law_843 shz149 ckL_151 cvL_X12_part rfl (by decide) (by decide) (C_X12_part (g := g) hb) rfl ?_
  refine G_istore (M := mLaw) (lv' := (6, .int rb.1) :: (5, .int k) :: lv5 (nI i)) 848 rfl dL_law_846 (by decide) rfl ?_
  refine G_aload_n (M := mLaw) 849 rfl dL_law_848 rfl 4 rfl ?_
  refine G_cV1 (M := mLaw) (As := []) (st := []) 852 rfl dL_law_849 shz149 ckL_119 cvL_X12_thrown rfl (by decide) (by decide) (C_X12_thrown (g := g) ht) rfl ?_
  refine G_iload (M := mLaw) 854 rfl dL_law_852 1 rfl ?_
  refine G_icmp_eq (M := mLaw) 859 857 (by decide) rfl dL_law_854 (fun _ => ?_) (fun h9 => absurd rfl h9)
  refine G_iload (M := mLaw) 861 rfl dL_law_859 1 rfl ?_
  refine G_if_ne (M := mLaw) 876 864 (by decide) rfl dL_law_861 (fun _ => G_goto (M := mLaw) 2091 (by decide) dL_law_876 (G_sub [2, 3, 4, 5, 6] rfl kk)) (fun h9 => ?_)
  refine G_aload_n (M := mLaw) 865 rfl dL_law_864 rfl 5 rfl ?_
  refine G_iconst (M := mLaw) (v := 0) 866 rfl dL_law_865 (by decide) ?_
  refine G_lald (M := mLaw) 867 rfl dL_law_866 sh160 inL0 ?_
  refine G_iload (M := mLaw) 869 rfl dL_law_867 0 rfl ?_
  refine G_i2l (M := mLaw) 870 rfl dL_law_869 ?_
  exact G_lc_eq (M := mLaw) 876 871 874 (by decide) rfl rfl dL_law_870 dL_law_871 (fun _ => G_goto (M := mLaw) 2091 (by decide) dL_law_876 (G_sub [2, 3, 4, 5, 6] rfl kk)) (fun h8 => absurd (h0 h9) h8)
theorem B_hours {g : Gx} {Ln i b : Nat} {xs : Nat → Int32} (hi : i + 6 ≤ Ln) (hL : Ln ≤ 3072) {I I' : MI} {L L' : ML} (h : SI ["java/lang/IllegalArgumentException"] (f_X11_hours (xs (i + 1)) I L) (f_X12_hours (xs (i + 1))) I' L') (kk : EG (PL g Ln xs) QL g 53 b mLaw 2091 (lv5 (nI i)) [] (I', L')) : EG (PL g Ln xs) QL g 53 (b + 1) mLaw 879 (lv5 (nI i)) [] (I, L) := by
  obtain ⟨ra, k, L1, rb, ha, hk, hb, ht, h0, rfl, rfl⟩ := h
  refine G_aload_n (M := mLaw) 880 rfl dL_law_879 rfl 1 rfl ?_
  refine G_arg (M := mLaw) 0 1 886 rfl dL_law_880 dL_law_881 dL_law_883 dL_law_884 dL_law_885 rfl rfl (by decide) (by omega) hL ?_
  refine G_aload_n (M := mLaw) 887 rfl dL_law_886 rfl 3 rfl ?_
  refine G_callW (M := mLaw) (As := [.ref 0, .int (xs (i + 1)), .ref 160]) (st := []) PL_nc 890 rfl dL_law_887 ckW_152 rfl (by decide) (by decide) (D_L_hours (g := g) ha hk) rfl ?_
  refine G_istore (M := mLaw) (lv' := (5, .int k) :: lv5 (nI i)) 892 rfl dL_law_890 (by decide) rfl ?_
  refine G_aload_n (M := mLaw) 893 rfl dL_law_892 rfl 3 rfl ?_
  refine G_arg (M := mLaw) 1 1 899 rfl dL_law_893 dL_law_894 dL_law_896 dL_law_897 dL_law_898 rfl rfl (by decide) (by omega) hL ?_
  refine G_cV1 (M := mLaw) (As := [.int (xs (i + 1))]) (st := []) 902 rfl dL_law_899 shz149 ckL_155 cvL_X12_hours rfl (by decide) (by decide) (C_X12_hours (g := g) hb) rfl ?_
  refine G_istore (M := mLaw) (lv' := (6, .int rb.1) :: (5, .int k) :: lv5 (nI i)) 904 rfl dL_law_902 (by decide) rfl ?_
  refine G_aload_n (M := mLaw) 905 rfl dL_law_904 rfl 4 rfl ?_
  refine G_cV1 (M := mLaw) (As := []) (st := []) 908 rfl dL_law_905 shz149 ckL_119 cvL_X12_thrown rfl (by decide) (by decide) (C_X12_thrown (g := g) ht) rfl ?_
  refine G_iload (M := mLaw) 910 rfl dL_law_908 1 rfl ?_
  refine G_icmp_eq (M := mLaw) 915 913 (by decide) rfl dL_law_910 (fun _ => ?_) (fun h9 => absurd rfl h9)
  refine G_iload (M := mLaw) 917 rfl dL_law_915 1 rfl ?_
  refine G_if_ne (M := mLaw) 932 920 (by decide) rfl dL_law_917 (fun _ => G_goto (M := mLaw) 2091 (by decide) dL_law_932 (G_sub [2, 3, 4, 5, 6] rfl kk)) (fun h9 => ?_)
  refine G_aload_n (M := mLaw) 921 rfl dL_law_920 rfl 5 rfl ?_
  refine G_iconst (M := mLaw) (v := 0) 922 rfl dL_law_921 (by decide) ?_
  refine G_lald (M := mLaw) 923 rfl dL_law_922 sh160 inL0 ?_
  refine G_iload (M := mLaw) 925 rfl dL_law_923 0 rfl ?_
  refine G_i2l (M := mLaw) 926 rfl dL_law_925 ?_
  exact G_lc_eq (M := mLaw) 932 927 930 (by decide) rfl rfl dL_law_926 dL_law_927 (fun _ => G_goto (M := mLaw) 2091 (by decide) dL_law_932 (G_sub [2, 3, 4, 5, 6] rfl kk)) (fun h8 => absurd (h0 h9) h8)
theorem B_go {g : Gx} {Ln i b : Nat} {xs : Nat → Int32} (hi : i + 6 ≤ Ln) (hL : Ln ≤ 3072) {I I' : MI} {L L' : ML} (h : SI ["java/lang/IndexOutOfBoundsException"] (f_X11_go (xs (i + 1)) (xs (i + 2)) I L) (f_X12_go (xs (i + 1)) (xs (i + 2))) I' L') (kk : EG (PL g Ln xs) QL g 53 b mLaw 2091 (lv5 (nI i)) [] (I', L')) : EG (PL g Ln xs) QL g 53 (b + 1) mLaw 935 (lv5 (nI i)) [] (I, L) := by
  obtain ⟨ra, k, L1, rb, ha, hk, hb, ht, h0, rfl, rfl⟩ := h
  refine G_aload_n (M := mLaw) 936 rfl dL_law_935 rfl 1 rfl ?_
  refine G_arg (M := mLaw) 0 1 942 rfl dL_law_936 dL_law_937 dL_law_939 dL_law_940 dL_law_941 rfl rfl (by decide) (by omega) hL ?_
  refine G_arg (M := mLaw) 0 2 948 rfl dL_law_942 dL_law_943 dL_law_945 dL_law_946 dL_law_947 rfl rfl (by decide) (by omega) hL ?_
  refine G_aload_n (M := mLaw) 949 rfl dL_law_948 rfl 3 rfl ?_
  refine G_callW (M := mLaw) (As := [.ref 0, .int (xs (i + 1)), .int (xs (i + 2)), .ref 160]) (st := []) PL_nc 952 rfl dL_law_949 ckW_156 rfl (by decide) (by decide) (D_L_go (g := g) ha hk) rfl ?_
  refine G_istore (M := mLaw) (lv' := (5, .int k) :: lv5 (nI i)) 954 rfl dL_law_952 (by decide) rfl ?_
  refine G_aload_n (M := mLaw) 955 rfl dL_law_954 rfl 3 rfl ?_
  refine G_arg (M := mLaw) 1 1 961 rfl dL_law_955 dL_law_956 dL_law_958 dL_law_959 dL_law_960 rfl rfl (by decide) (by omega) hL ?_
  refine G_arg (M := mLaw) 1 2 967 rfl dL_law_961 dL_law_962 dL_law_964 dL_law_965 dL_law_966 rfl rfl (by decide) (by omega) hL ?_
  refine G_cV1 (M := mLaw) (As := [.int (xs (i + 1)), .int (xs (i + 2))]) (st := []) 970 rfl dL_law_967 shz149 ckL_158 cvL_X12_go rfl (by decide) (by decide) (C_X12_go (g := g) hb) rfl ?_
  refine G_istore (M := mLaw) (lv' := (6, .int rb.1) :: (5, .int k) :: lv5 (nI i)) 972 rfl dL_law_970 (by decide) rfl ?_
  refine G_aload_n (M := mLaw) 973 rfl dL_law_972 rfl 4 rfl ?_
  refine G_cV1 (M := mLaw) (As := []) (st := []) 976 rfl dL_law_973 shz149 ckL_119 cvL_X12_thrown rfl (by decide) (by decide) (C_X12_thrown (g := g) ht) rfl ?_
  refine G_iload (M := mLaw) 978 rfl dL_law_976 1 rfl ?_
  refine G_icmp_eq (M := mLaw) 983 981 (by decide) rfl dL_law_978 (fun _ => ?_) (fun h9 => absurd rfl h9)
  refine G_iload (M := mLaw) 985 rfl dL_law_983 1 rfl ?_
  refine G_if_ne (M := mLaw) 1000 988 (by decide) rfl dL_law_985 (fun _ => G_goto (M := mLaw) 2091 (by decide) dL_law_1000 (G_sub [2, 3, 4, 5, 6] rfl kk)) (fun h9 => ?_)
  refine G_aload_n (M := mLaw) 989 rfl dL_law_988 rfl 5 rfl ?_
  refine G_iconst (M := mLaw) (v := 0) 990 rfl dL_law_989 (by decide) ?_
  refine G_lald (M := mLaw) 991 rfl dL_law_990 sh160 inL0 ?_
  refine G_iload (M := mLaw) 993 rfl dL_law_991 0 rfl ?_
  refine G_i2l (M := mLaw) 994 rfl dL_law_993 ?_
  exact G_lc_eq (M := mLaw) 1000 995 998 (by decide) rfl rfl dL_law_994 dL_law_995 (fun _ => G_goto (M := mLaw) 2091 (by decide) dL_law_1000 (G_sub [2, 3, 4, 5, 6] rfl kk)) (fun h8 => absurd (h0 h9) h8)
theorem B_make {g : Gx} {Ln i b : Nat} {xs : Nat → Int32} (hi : i + 6 ≤ Ln) (hL : Ln ≤ 3072) {I I' : MI} {L L' : ML} (h : SB ["java/lang/IndexOutOfBoundsException", "java/lang/IllegalArgumentException"] (f_X11_make (xs (i + 1)) I L) (f_X12_make (xs (i + 1))) I' L') (kk : EG (PL g Ln xs) QL g 53 b mLaw 2091 (lv5 (nI i)) [] (I', L')) : EG (PL g Ln xs) QL g 53 (b + 1) mLaw 1003 (lv5 (nI i)) [] (I, L) := by
  obtain ⟨ra, k, L1, rb, ha, hk, hb, ht, h0, rfl, rfl⟩ := h
  refine G_aload_n (M := mLaw) 1004 rfl dL_law_1003 rfl 1 rfl ?_
  refine G_arg (M := mLaw) 0 1 1010 rfl dL_law_1004 dL_law_1005 dL_law_1007 dL_law_1008 dL_law_1009 rfl rfl (by decide) (by omega) hL ?_
  refine G_aload_n (M := mLaw) 1011 rfl dL_law_1010 rfl 3 rfl ?_
  refine G_callW (M := mLaw) (As := [.ref 0, .int (xs (i + 1)), .ref 160]) (st := []) PL_nc 1014 rfl dL_law_1011 ckW_159 rfl (by decide) (by decide) (D_L_make (g := g) ha hk) rfl ?_
  refine G_istore (M := mLaw) (lv' := (5, .int k) :: lv5 (nI i)) 1016 rfl dL_law_1014 (by decide) rfl ?_
  refine G_aload_n (M := mLaw) 1017 rfl dL_law_1016 rfl 3 rfl ?_
  refine G_arg (M := mLaw) 1 1 1023 rfl dL_law_1017 dL_law_1018 dL_law_1020 dL_law_1021 dL_law_1022 rfl rfl (by decide) (by omega) hL ?_
  refine G_cV1 (M := mLaw) (As := [.int (xs (i + 1))]) (st := []) 1026 rfl dL_law_1023 shz149 ckL_161 cvL_X12_make rfl (by decide) (by decide) (C_X12_make (g := g) hb) rfl ?_
  refine G_istore (M := mLaw) (lv' := (6, .int (bI rb.1)) :: (5, .int k) :: lv5 (nI i)) 1028 rfl dL_law_1026 (by decide) rfl ?_
  refine G_aload_n (M := mLaw) 1029 rfl dL_law_1028 rfl 4 rfl ?_
  refine G_cV1 (M := mLaw) (As := []) (st := []) 1032 rfl dL_law_1029 shz149 ckL_119 cvL_X12_thrown rfl (by decide) (by decide) (C_X12_thrown (g := g) ht) rfl ?_
  refine G_iload (M := mLaw) 1034 rfl dL_law_1032 1 rfl ?_
  refine G_icmp_eq (M := mLaw) 1039 1037 (by decide) rfl dL_law_1034 (fun _ => ?_) (fun h9 => absurd rfl h9)
  refine G_iload (M := mLaw) 1041 rfl dL_law_1039 1 rfl ?_
  refine G_if_ne (M := mLaw) 1063 1044 (by decide) rfl dL_law_1041 (fun _ => G_goto (M := mLaw) 2091 (by decide) dL_law_1063 (G_sub [2, 3, 4, 5, 6] rfl kk)) (fun h9 => ?_)
  refine G_aload_n (M := mLaw) 1045 rfl dL_law_1044 rfl 5 rfl ?_
  refine G_iconst (M := mLaw) (v := 0) 1046 rfl dL_law_1045 (by decide) ?_
  refine G_lald (M := mLaw) 1047 rfl dL_law_1046 sh160 inL0 ?_
  refine G_iload (M := mLaw) 1049 rfl dL_law_1047 0 rfl ?_
  have h7 := h0 h9
  refine G_if_eqB (M := mLaw) 1056 1052 (by decide) rfl dL_law_1049 (fun h6 => ?_) (fun h6 => ?_)
  · rw [h6, if_neg (by decide)] at h7
    refine G_lconst (M := mLaw) (v := 0) 1057 rfl dL_law_1056 (by decide) ?_
    exact G_lc_eq (M := mLaw) 1063 1058 1061 (by decide) rfl rfl dL_law_1057 dL_law_1058 (fun _ => G_goto (M := mLaw) 2091 (by decide) dL_law_1063 (G_sub [2, 3, 4, 5, 6] rfl kk)) (fun h8 => absurd h7 h8)
  · rw [h6, if_pos rfl] at h7
    refine G_lconst (M := mLaw) (v := 1) 1053 rfl dL_law_1052 (by decide) ?_
    refine G_goto (M := mLaw) 1057 (by decide) dL_law_1053 ?_
    exact G_lc_eq (M := mLaw) 1063 1058 1061 (by decide) rfl rfl dL_law_1057 dL_law_1058 (fun _ => G_goto (M := mLaw) 2091 (by decide) dL_law_1063 (G_sub [2, 3, 4, 5, 6] rfl kk)) (fun h8 => absurd h7 h8)
theorem B_oil {g : Gx} {Ln i b : Nat} {xs : Nat → Int32} (hi : i + 6 ≤ Ln) (hL : Ln ≤ 3072) {I I' : MI} {L L' : ML} (h : SI ["java/lang/IndexOutOfBoundsException", "java/lang/IllegalArgumentException"] (f_X11_oil (xs (i + 1)) (xs (i + 2)) I L) (f_X12_oil (xs (i + 1)) (xs (i + 2))) I' L') (kk : EG (PL g Ln xs) QL g 53 b mLaw 2091 (lv5 (nI i)) [] (I', L')) : EG (PL g Ln xs) QL g 53 (b + 1) mLaw 1066 (lv5 (nI i)) [] (I, L) := by
  obtain ⟨ra, k, L1, rb, ha, hk, hb, ht, h0, rfl, rfl⟩ := h
  refine G_aload_n (M := mLaw) 1067 rfl dL_law_1066 rfl 1 rfl ?_
  refine G_arg (M := mLaw) 0 1 1073 rfl dL_law_1067 dL_law_1068 dL_law_1070 dL_law_1071 dL_law_1072 rfl rfl (by decide) (by omega) hL ?_
  refine G_arg (M := mLaw) 0 2 1079 rfl dL_law_1073 dL_law_1074 dL_law_1076 dL_law_1077 dL_law_1078 rfl rfl (by decide) (by omega) hL ?_
  refine G_aload_n (M := mLaw) 1080 rfl dL_law_1079 rfl 3 rfl ?_
  refine G_callW (M := mLaw) (As := [.ref 0, .int (xs (i + 1)), .int (xs (i + 2)), .ref 160]) (st := []) PL_nc 1083 rfl dL_law_1080 ckW_162 rfl (by decide) (by decide) (D_L_oil (g := g) ha hk) rfl ?_
  refine G_istore (M := mLaw) (lv' := (5, .int k) :: lv5 (nI i)) 1085 rfl dL_law_1083 (by decide) rfl ?_
  refine G_aload_n (M := mLaw) 1086 rfl dL_law_1085 rfl 3 rfl ?_
  refine G_arg (M := mLaw) 1 1 1092 rfl dL_law_1086 dL_law_1087 dL_law_1089 dL_law_1090 dL_law_1091 rfl rfl (by decide) (by omega) hL ?_
  refine G_arg (M := mLaw) 1 2 1098 rfl dL_law_1092 dL_law_1093 dL_law_1095 dL_law_1096 dL_law_1097 rfl rfl (by decide) (by omega) hL ?_
  refine G_cV1 (M := mLaw) (As := [.int (xs (i + 1)), .int (xs (i + 2))]) (st := []) 1101 rfl dL_law_1098 shz149 ckL_164 cvL_X12_oil rfl (by decide) (by decide) (C_X12_oil (g := g) hb) rfl ?_
  refine G_istore (M := mLaw) (lv' := (6, .int rb.1) :: (5, .int k) :: lv5 (nI i)) 1103 rfl dL_law_1101 (by decide) rfl ?_
  refine G_aload_n (M := mLaw) 1104 rfl dL_law_1103 rfl 4 rfl ?_
  refine G_cV1 (M := mLaw) (As := []) (st := []) 1107 rfl dL_law_1104 shz149 ckL_119 cvL_X12_thrown rfl (by decide) (by decide) (C_X12_thrown (g := g) ht) rfl ?_
  refine G_iload (M := mLaw) 1109 rfl dL_law_1107 1 rfl ?_
  refine G_icmp_eq (M := mLaw) 1114 1112 (by decide) rfl dL_law_1109 (fun _ => ?_) (fun h9 => absurd rfl h9)
  refine G_iload (M := mLaw) 1116 rfl dL_law_1114 1 rfl ?_
  refine G_if_ne (M := mLaw) 1131 1119 (by decide) rfl dL_law_1116 (fun _ => G_goto (M := mLaw) 2091 (by decide) dL_law_1131 (G_sub [2, 3, 4, 5, 6] rfl kk)) (fun h9 => ?_)
  refine G_aload_n (M := mLaw) 1120 rfl dL_law_1119 rfl 5 rfl ?_
  refine G_iconst (M := mLaw) (v := 0) 1121 rfl dL_law_1120 (by decide) ?_
  refine G_lald (M := mLaw) 1122 rfl dL_law_1121 sh160 inL0 ?_
  refine G_iload (M := mLaw) 1124 rfl dL_law_1122 0 rfl ?_
  refine G_i2l (M := mLaw) 1125 rfl dL_law_1124 ?_
  exact G_lc_eq (M := mLaw) 1131 1126 1129 (by decide) rfl rfl dL_law_1125 dL_law_1126 (fun _ => G_goto (M := mLaw) 2091 (by decide) dL_law_1131 (G_sub [2, 3, 4, 5, 6] rfl kk)) (fun h8 => absurd (h0 h9) h8)
theorem B_carpet {g : Gx} {Ln i b : Nat} {xs : Nat → Int32} (hi : i + 6 ≤ Ln) (hL : Ln ≤ 3072) {I I' : MI} {L L' : ML} (h : SI ["java/lang/IndexOutOfBoundsException", "java/lang/IllegalArgumentException"] (f_X11_carpet (xs (i + 1)) (xs (i + 2)) I L) (f_X12_carpet (xs (i + 1)) (xs (i + 2))) I' L') (kk : EG (PL g Ln xs) QL g 53 b mLaw 2091 (lv5 (nI i)) [] (I', L')) : EG (PL g Ln xs) QL g 53 (b + 1) mLaw 1134 (lv5 (nI i)) [] (I, L) := by
  obtain ⟨ra, k, L1, rb, ha, hk, hb, ht, h0, rfl, rfl⟩ := h
  refine G_aload_n (M := mLaw) 1135 rfl dL_law_1134 rfl 1 rfl ?_
  refine G_arg (M := mLaw) 0 1 1141 rfl dL_law_1135 dL_law_1136 dL_law_1138 dL_law_1139 dL_law_1140 rfl rfl (by decide) (by omega) hL ?_
  refine G_arg (M := mLaw) 0 2 1147 rfl dL_law_1141 dL_law_1142 dL_law_1144 dL_law_1145 dL_law_1146 rfl rfl (by decide) (by omega) hL ?_
  refine G_aload_n (M := mLaw) 1148 rfl dL_law_1147 rfl 3 rfl ?_
  refine G_callW (M := mLaw) (As := [.ref 0, .int (xs (i + 1)), .int (xs (i + 2)), .ref 160]) (st := []) PL_nc 1151 rfl dL_law_1148 ckW_165 rfl (by decide) (by decide) (D_L_carpet (g := g) ha hk) rfl ?_
  refine G_istore (M := mLaw) (lv' := (5, .int k) :: lv5 (nI i)) 1153 rfl dL_law_1151 (by decide) rfl ?_
  refine G_aload_n (M := mLaw) 1154 rfl dL_law_1153 rfl 3 rfl ?_
  refine G_arg (M := mLaw) 1 1 1160 rfl dL_law_1154 dL_law_1155 dL_law_1157 dL_law_1158 dL_law_1159 rfl rfl (by decide) (by omega) hL ?_
  refine G_arg (M := mLaw) 1 2 1166 rfl dL_law_1160 dL_law_1161 dL_law_1163 dL_law_1164 dL_law_1165 rfl rfl (by decide) (by omega) hL ?_
  refine G_cV1 (M := mLaw) (As := [.int (xs (i + 1)), .int (xs (i + 2))]) (st := []) 1169 rfl dL_law_1166 shz149 ckL_167 cvL_X12_carpet rfl (by decide) (by decide) (C_X12_carpet (g := g) hb) rfl ?_
  refine G_istore (M := mLaw) (lv' := (6, .int rb.1) :: (5, .int k) :: lv5 (nI i)) 1171 rfl dL_law_1169 (by decide) rfl ?_
  refine G_aload_n (M := mLaw) 1172 rfl dL_law_1171 rfl 4 rfl ?_
  refine G_cV1 (M := mLaw) (As := []) (st := []) 1175 rfl dL_law_1172 shz149 ckL_119 cvL_X12_thrown rfl (by decide) (by decide) (C_X12_thrown (g := g) ht) rfl ?_
  refine G_iload (M := mLaw) 1177 rfl dL_law_1175 1 rfl ?_
  refine G_icmp_eq (M := mLaw) 1182 1180 (by decide) rfl dL_law_1177 (fun _ => ?_) (fun h9 => absurd rfl h9)
  refine G_iload (M := mLaw) 1184 rfl dL_law_1182 1 rfl ?_
  refine G_if_ne (M := mLaw) 1199 1187 (by decide) rfl dL_law_1184 (fun _ => G_goto (M := mLaw) 2091 (by decide) dL_law_1199 (G_sub [2, 3, 4, 5, 6] rfl kk)) (fun h9 => ?_)
  refine G_aload_n (M := mLaw) 1188 rfl dL_law_1187 rfl 5 rfl ?_
  refine G_iconst (M := mLaw) (v := 0) 1189 rfl dL_law_1188 (by decide) ?_
  refine G_lald (M := mLaw) 1190 rfl dL_law_1189 sh160 inL0 ?_
  refine G_iload (M := mLaw) 1192 rfl dL_law_1190 0 rfl ?_
  refine G_i2l (M := mLaw) 1193 rfl dL_law_1192 ?_
  exact G_lc_eq (M := mLaw) 1199 1194 1197 (by decide) rfl rfl dL_law_1193 dL_law_1194 (fun _ => G_goto (M := mLaw) 2091 (by decide) dL_law_1199 (G_sub [2, 3, 4, 5, 6] rfl kk)) (fun h8 => absurd (h0 h9) h8)
theorem B_undo {g : Gx} {Ln i b : Nat} {xs : Nat → Int32} (hi : i + 6 ≤ Ln) (hL : Ln ≤ 3072) {I I' : MI} {L L' : ML} (h : SD (f_X11_undo  I L) (f_X12_undo ) I' L') (kk : EG (PL g Ln xs) QL g 53 b mLaw 2091 (lv5 (nI i)) [] (I', L')) : EG (PL g Ln xs) QL g 53 (b + 1) mLaw 1202 (lv5 (nI i)) [] (I, L) := by
  obtain ⟨ra, rb, ha, hb, he, rfl, rfl⟩ := h
  refine G_less (b' := b) (Nat.le_succ b) ?_
  refine G_aload_n (M := mLaw) 1203 rfl dL_law_1202 rfl 1 rfl ?_
  refine G_cV1 (M := mLaw) (As := []) (st := []) 1206 rfl dL_law_1203 shz0 ckL_168 cvL_X11_undo rfl (by decide) (by decide) (C_X11_undo (g := g) ha) rfl ?_
  refine G_aload_n (M := mLaw) 1207 rfl dL_law_1206 rfl 2 rfl ?_
  refine G_cV1 (M := mLaw) (As := []) (st := [.int (bI ra.1)]) 1210 rfl dL_law_1207 shz149 ckL_172 cvL_X12_undo rfl (by decide) (Nat.le_of_ble_eq_true rfl) (C_X12_undo (g := g) hb) rfl ?_
  exact G_icmp_eq (M := mLaw) 2091 1213 (by decide) rfl dL_law_1210 (fun _ => kk) (fun h8 => absurd (by rw [he]) h8)
theorem B_odds {g : Gx} {Ln i b : Nat} {xs : Nat → Int32} (hi : i + 6 ≤ Ln) (hL : Ln ≤ 3072) {I I' : MI} {L L' : ML} (h : SI ["java/lang/IndexOutOfBoundsException", "java/lang/IllegalArgumentException"] (f_X11_odds (xs (i + 1)) (xs (i + 2)) (xs (i + 3)) I L) (f_X12_odds (xs (i + 1)) (xs (i + 2)) (xs (i + 3))) I' L') (kk : EG (PL g Ln xs) QL g 53 b mLaw 2091 (lv5 (nI i)) [] (I', L')) : EG (PL g Ln xs) QL g 53 (b + 1) mLaw 1215 (lv5 (nI i)) [] (I, L) := by
  obtain ⟨ra, k, L1, rb, ha, hk, hb, ht, h0, rfl, rfl⟩ := h
  refine G_aload_n (M := mLaw) 1216 rfl dL_law_1215 rfl 1 rfl ?_
  refine G_arg (M := mLaw) 0 1 1222 rfl dL_law_1216 dL_law_1217 dL_law_1219 dL_law_1220 dL_law_1221 rfl rfl (by decide) (by omega) hL ?_
  refine G_arg (M := mLaw) 0 2 1228 rfl dL_law_1222 dL_law_1223 dL_law_1225 dL_law_1226 dL_law_1227 rfl rfl (by decide) (by omega) hL ?_
  refine G_arg (M := mLaw) 0 3 1234 rfl dL_law_1228 dL_law_1229 dL_law_1231 dL_law_1232 dL_law_1233 rfl rfl (by decide) (by omega) hL ?_
  refine G_aload_n (M := mLaw) 1235 rfl dL_law_1234 rfl 3 rfl ?_
  refine G_callW (M := mLaw) (As := [.ref 0, .int (xs (i + 1)), .int (xs (i + 2)), .int (xs (i + 3)), .ref 160]) (st := []) PL_nc 1238 rfl dL_law_1235 ckW_173 rfl (by decide) (by decide) (D_L_odds (g := g) ha hk) rfl ?_
  refine G_istore (M := mLaw) (lv' := (5, .int k) :: lv5 (nI i)) 1240 rfl dL_law_1238 (by decide) rfl ?_
  refine G_aload_n (M := mLaw) 1241 rfl dL_law_1240 rfl 3 rfl ?_
  refine G_arg (M := mLaw) 1 1 1247 rfl dL_law_1241 dL_law_1242 dL_law_1244 dL_law_1245 dL_law_1246 rfl rfl (by decide) (by omega) hL ?_
  refine G_arg (M := mLaw) 1 2 1253 rfl dL_law_1247 dL_law_1248 dL_law_1250 dL_law_1251 dL_law_1252 rfl rfl (by decide) (by omega) hL ?_
  refine G_arg (M := mLaw) 1 3 1259 rfl dL_law_1253 dL_law_1254 dL_law_1256 dL_law_1257 dL_law_1258 rfl rfl (by decide) (by omega) hL ?_
  refine G_cV1 (M := mLaw) (As := [.int (xs (i + 1)), .int (xs (i + 2)), .int (xs (i + 3))]) (st := []) 1262 rfl dL_law_1259 shz149 ckL_175 cvL_X12_odds rfl (by decide) (by decide) (C_X12_odds (g := g) hb) rfl ?_
  refine G_istore (M := mLaw) (lv' := (6, .int rb.1) :: (5, .int k) :: lv5 (nI i)) 1264 rfl dL_law_1262 (by decide) rfl ?_
  refine G_aload_n (M := mLaw) 1265 rfl dL_law_1264 rfl 4 rfl ?_
  refine G_cV1 (M := mLaw) (As := []) (st := []) 1268 rfl dL_law_1265 shz149 ckL_119 cvL_X12_thrown rfl (by decide) (by decide) (C_X12_thrown (g := g) ht) rfl ?_
  refine G_iload (M := mLaw) 1270 rfl dL_law_1268 1 rfl ?_
  refine G_icmp_eq (M := mLaw) 1275 1273 (by decide) rfl dL_law_1270 (fun _ => ?_) (fun h9 => absurd rfl h9)
  refine G_iload (M := mLaw) 1277 rfl dL_law_1275 1 rfl ?_
  refine G_if_ne (M := mLaw) 1292 1280 (by decide) rfl dL_law_1277 (fun _ => G_goto (M := mLaw) 2091 (by decide) dL_law_1292 (G_sub [2, 3, 4, 5, 6] rfl kk)) (fun h9 => ?_)
  refine G_aload_n (M := mLaw) 1281 rfl dL_law_1280 rfl 5 rfl ?_
  refine G_iconst (M := mLaw) (v := 0) 1282 rfl dL_law_1281 (by decide) ?_
  refine G_lald (M := mLaw) 1283 rfl dL_law_1282 sh160 inL0 ?_
  refine G_iload (M := mLaw) 1285 rfl dL_law_1283 0 rfl ?_
  refine G_i2l (M := mLaw) 1286 rfl dL_law_1285 ?_
  exact G_lc_eq (M := mLaw) 1292 1287 1290 (by decide) rfl rfl dL_law_1286 dL_law_1287 (fun _ => G_goto (M := mLaw) 2091 (by decide) dL_law_1292 (G_sub [2, 3, 4, 5, 6] rfl kk)) (fun h8 => absurd (h0 h9) h8)
theorem B_likeliest {g : Gx} {Ln i b : Nat} {xs : Nat → Int32} (hi : i + 6 ≤ Ln) (hL : Ln ≤ 3072) {I I' : MI} {L L' : ML} (h : SI ["java/lang/IndexOutOfBoundsException", "java/lang/IllegalArgumentException"] (f_X11_likeliest (xs (i + 1)) (xs (i + 2)) I L) (f_X12_likeliest (xs (i + 1)) (xs (i + 2))) I' L') (kk : EG (PL g Ln xs) QL g 53 b mLaw 2091 (lv5 (nI i)) [] (I', L')) : EG (PL g Ln xs) QL g 53 (b + 1) mLaw 1295 (lv5 (nI i)) [] (I, L) := by
  obtain ⟨ra, k, L1, rb, ha, hk, hb, ht, h0, rfl, rfl⟩ := h
  refine G_aload_n (M := mLaw) 1296 rfl dL_law_1295 rfl 1 rfl ?_
  refine G_arg (M := mLaw) 0 1 1302 rfl dL_law_1296 dL_law_1297 dL_law_1299 dL_law_1300 dL_law_1301 rfl rfl (by decide) (by omega) hL ?_
  refine G_arg (M := mLaw) 0 2 1308 rfl dL_law_1302 dL_law_1303 dL_law_1305 dL_law_1306 dL_law_1307 rfl rfl (by decide) (by omega) hL ?_
  refine G_aload_n (M := mLaw) 1309 rfl dL_law_1308 rfl 3 rfl ?_
  refine G_callW (M := mLaw) (As := [.ref 0, .int (xs (i + 1)), .int (xs (i + 2)), .ref 160]) (st := []) PL_nc 1312 rfl dL_law_1309 ckW_176 rfl (by decide) (by decide) (D_L_likeliest (g := g) ha hk) rfl ?_
  refine G_istore (M := mLaw) (lv' := (5, .int k) :: lv5 (nI i)) 1314 rfl dL_law_1312 (by decide) rfl ?_
  refine G_aload_n (M := mLaw) 1315 rfl dL_law_1314 rfl 3 rfl ?_
  refine G_arg (M := mLaw) 1 1 1321 rfl dL_law_1315 dL_law_1316 dL_law_1318 dL_law_1319 dL_law_1320 rfl rfl (by decide) (by omega) hL ?_
  refine G_arg (M := mLaw) 1 2 1327 rfl dL_law_1321 dL_law_1322 dL_law_1324 dL_law_1325 dL_law_1326 rfl rfl (by decide) (by omega) hL ?_
  refine G_cV1 (M := mLaw) (As := [.int (xs (i + 1)), .int (xs (i + 2))]) (st := []) 1330 rfl dL_law_1327 shz149 ckL_178 cvL_X12_likeliest rfl (by decide) (by decide) (C_X12_likeliest (g := g) hb) rfl ?_
  refine G_istore (M := mLaw) (lv' := (6, .int rb.1) :: (5, .int k) :: lv5 (nI i)) 1332 rfl dL_law_1330 (by decide) rfl ?_
  refine G_aload_n (M := mLaw) 1333 rfl dL_law_1332 rfl 4 rfl ?_
  refine G_cV1 (M := mLaw) (As := []) (st := []) 1336 rfl dL_law_1333 shz149 ckL_119 cvL_X12_thrown rfl (by decide) (by decide) (C_X12_thrown (g := g) ht) rfl ?_
  refine G_iload (M := mLaw) 1338 rfl dL_law_1336 1 rfl ?_
  refine G_icmp_eq (M := mLaw) 1343 1341 (by decide) rfl dL_law_1338 (fun _ => ?_) (fun h9 => absurd rfl h9)
  refine G_iload (M := mLaw) 1345 rfl dL_law_1343 1 rfl ?_
  refine G_if_ne (M := mLaw) 1360 1348 (by decide) rfl dL_law_1345 (fun _ => G_goto (M := mLaw) 2091 (by decide) dL_law_1360 (G_sub [2, 3, 4, 5, 6] rfl kk)) (fun h9 => ?_)
  refine G_aload_n (M := mLaw) 1349 rfl dL_law_1348 rfl 5 rfl ?_
  refine G_iconst (M := mLaw) (v := 0) 1350 rfl dL_law_1349 (by decide) ?_
  refine G_lald (M := mLaw) 1351 rfl dL_law_1350 sh160 inL0 ?_
  refine G_iload (M := mLaw) 1353 rfl dL_law_1351 0 rfl ?_
  refine G_i2l (M := mLaw) 1354 rfl dL_law_1353 ?_
  exact G_lc_eq (M := mLaw) 1360 1355 1358 (by decide) rfl rfl dL_law_1354 dL_law_1355 (fun _ => G_goto (M := mLaw) 2091 (by decide) dL_law_1360 (G_sub [2, 3, 4, 5, 6] rfl kk)) (fun h8 => absurd (h0 h9) h8)
theorem B_due {g : Gx} {Ln i b : Nat} {xs : Nat → Int32} (hi : i + 6 ≤ Ln) (hL : Ln ≤ 3072) {I I' : MI} {L L' : ML} (h : SJ ["java/lang/IndexOutOfBoundsException", "java/lang/IllegalArgumentException"] (f_X11_due (xs (i + 1)) (xs (i + 2)) I L) (f_X12_due (xs (i + 1)) (xs (i + 2))) I' L') (kk : EG (PL g Ln xs) QL g 53 b mLaw 2091 (lv5 (nI i)) [] (I', L')) : EG (PL g Ln xs) QL g 53 (b + 1) mLaw 1363 (lv5 (nI i)) [] (I, L) := by
  obtain ⟨ra, k, L1, rb, ha, hk, hb, ht, h0, rfl, rfl⟩ := h
  refine G_aload_n (M := mLaw) 1364 rfl dL_law_1363 rfl 1 rfl ?_
  refine G_arg (M := mLaw) 0 1 1370 rfl dL_law_1364 dL_law_1365 dL_law_1367 dL_law_1368 dL_law_1369 rfl rfl (by decide) (by omega) hL ?_
  refine G_arg (M := mLaw) 0 2 1376 rfl dL_law_1370 dL_law_1371 dL_law_1373 dL_law_1374 dL_law_1375 rfl rfl (by decide) (by omega) hL ?_
  refine G_aload_n (M := mLaw) 1377 rfl dL_law_1376 rfl 3 rfl ?_
  refine G_callW (M := mLaw) (As := [.ref 0, .int (xs (i + 1)), .int (xs (i + 2)), .ref 160]) (st := []) PL_nc 1380 rfl dL_law_1377 ckW_179 rfl (by decide) (by decide) (D_L_due (g := g) ha hk) rfl ?_
  refine G_istore (M := mLaw) (lv' := (5, .int k) :: lv5 (nI i)) 1382 rfl dL_law_1380 (by decide) rfl ?_
  refine G_aload_n (M := mLaw) 1383 rfl dL_law_1382 rfl 3 rfl ?_
  refine G_arg (M := mLaw) 1 1 1389 rfl dL_law_1383 dL_law_1384 dL_law_1386 dL_law_1387 dL_law_1388 rfl rfl (by decide) (by omega) hL ?_
  refine G_arg (M := mLaw) 1 2 1395 rfl dL_law_1389 dL_law_1390 dL_law_1392 dL_law_1393 dL_law_1394 rfl rfl (by decide) (by omega) hL ?_
  refine G_cV1 (M := mLaw) (As := [.int (xs (i + 1)), .int (xs (i + 2))]) (st := []) 1398 rfl dL_law_1395 shz149 ckL_181 cvL_X12_due rfl (by decide) (by decide) (C_X12_due (g := g) hb) rfl ?_
  refine G_lstore (M := mLaw) (lv' := (6, .long rb.1) :: (5, .int k) :: lv5 (nI i)) 1400 rfl dL_law_1398 (by decide) rfl ?_
  refine G_aload_n (M := mLaw) 1401 rfl dL_law_1400 rfl 4 rfl ?_
  refine G_cV1 (M := mLaw) (As := []) (st := []) 1404 rfl dL_law_1401 shz149 ckL_119 cvL_X12_thrown rfl (by decide) (by decide) (C_X12_thrown (g := g) ht) rfl ?_
  refine G_iload (M := mLaw) 1406 rfl dL_law_1404 1 rfl ?_
  refine G_icmp_eq (M := mLaw) 1411 1409 (by decide) rfl dL_law_1406 (fun _ => ?_) (fun h9 => absurd rfl h9)
  refine G_iload (M := mLaw) 1413 rfl dL_law_1411 1 rfl ?_
  refine G_if_ne (M := mLaw) 1427 1416 (by decide) rfl dL_law_1413 (fun _ => G_goto (M := mLaw) 2091 (by decide) dL_law_1427 (G_sub [2, 3, 4, 5, 6] rfl kk)) (fun h9 => ?_)
  refine G_aload_n (M := mLaw) 1417 rfl dL_law_1416 rfl 5 rfl ?_
  refine G_iconst (M := mLaw) (v := 0) 1418 rfl dL_law_1417 (by decide) ?_
  refine G_lald (M := mLaw) 1419 rfl dL_law_1418 sh160 inL0 ?_
  refine G_lload (M := mLaw) 1421 rfl dL_law_1419 0 rfl ?_
  exact G_lc_eq (M := mLaw) 1427 1422 1425 (by decide) rfl rfl dL_law_1421 dL_law_1422 (fun _ => G_goto (M := mLaw) 2091 (by decide) dL_law_1427 (G_sub [2, 3, 4, 5, 6] rfl kk)) (fun h8 => absurd (h0 h9) h8)
theorem B_quiet {g : Gx} {Ln i b : Nat} {xs : Nat → Int32} (hi : i + 6 ≤ Ln) (hL : Ln ≤ 3072) {I I' : MI} {L L' : ML} (h : SI ["java/lang/IndexOutOfBoundsException", "java/lang/IllegalArgumentException"] (f_X11_quiet (xs (i + 1)) (xs (i + 2)) (xs (i + 3)) I L) (f_X12_quiet (xs (i + 1)) (xs (i + 2)) (xs (i + 3))) I' L') (kk : EG (PL g Ln xs) QL g 53 b mLaw 2091 (lv5 (nI i)) [] (I', L')) : EG (PL g Ln xs) QL g 53 (b + 1) mLaw 1430 (lv5 (nI i)) [] (I, L) := by
  obtain ⟨ra, k, L1, rb, ha, hk, hb, ht, h0, rfl, rfl⟩ := h
  refine G_aload_n (M := mLaw) 1431 rfl dL_law_1430 rfl 1 rfl ?_
  refine G_arg (M := mLaw) 0 1 1437 rfl dL_law_1431 dL_law_1432 dL_law_1434 dL_law_1435 dL_law_1436 rfl rfl (by decide) (by omega) hL ?_
  refine G_arg (M := mLaw) 0 2 1443 rfl dL_law_1437 dL_law_1438 dL_law_1440 dL_law_1441 dL_law_1442 rfl rfl (by decide) (by omega) hL ?_
  refine G_arg (M := mLaw) 0 3 1449 rfl dL_law_1443 dL_law_1444 dL_law_1446 dL_law_1447 dL_law_1448 rfl rfl (by decide) (by omega) hL ?_
  refine G_aload_n (M := mLaw) 1450 rfl dL_law_1449 rfl 3 rfl ?_
  refine G_callW (M := mLaw) (As := [.ref 0, .int (xs (i + 1)), .int (xs (i + 2)), .int (xs (i + 3)), .ref 160]) (st := []) PL_nc 1453 rfl dL_law_1450 ckW_182 rfl (by decide) (by decide) (D_L_quiet (g := g) ha hk) rfl ?_
  refine G_istore (M := mLaw) (lv' := (5, .int k) :: lv5 (nI i)) 1455 rfl dL_law_1453 (by decide) rfl ?_
  refine G_aload_n (M := mLaw) 1456 rfl dL_law_1455 rfl 3 rfl ?_
  refine G_arg (M := mLaw) 1 1 1462 rfl dL_law_1456 dL_law_1457 dL_law_1459 dL_law_1460 dL_law_1461 rfl rfl (by decide) (by omega) hL ?_
  refine G_arg (M := mLaw) 1 2 1468 rfl dL_law_1462 dL_law_1463 dL_law_1465 dL_law_1466 dL_law_1467 rfl rfl (by decide) (by omega) hL ?_
  refine G_arg (M := mLaw) 1 3 1474 rfl dL_law_1468 dL_law_1469 dL_law_1471 dL_law_1472 dL_law_1473 rfl rfl (by decide) (by omega) hL ?_
  refine G_cV1 (M := mLaw) (As := [.int (xs (i + 1)), .int (xs (i + 2)), .int (xs (i + 3))]) (st := []) 1477 rfl dL_law_1474 shz149 ckL_184 cvL_X12_quiet rfl (by decide) (by decide) (C_X12_quiet (g := g) hb) rfl ?_
  refine G_istore (M := mLaw) (lv' := (6, .int rb.1) :: (5, .int k) :: lv5 (nI i)) 1479 rfl dL_law_1477 (by decide) rfl ?_
  refine G_aload_n (M := mLaw) 1480 rfl dL_law_1479 rfl 4 rfl ?_
  refine G_cV1 (M := mLaw) (As := []) (st := []) 1483 rfl dL_law_1480 shz149 ckL_119 cvL_X12_thrown rfl (by decide) (by decide) (C_X12_thrown (g := g) ht) rfl ?_
  refine G_iload (M := mLaw) 1485 rfl dL_law_1483 1 rfl ?_
  refine G_icmp_eq (M := mLaw) 1490 1488 (by decide) rfl dL_law_1485 (fun _ => ?_) (fun h9 => absurd rfl h9)
  refine G_iload (M := mLaw) 1492 rfl dL_law_1490 1 rfl ?_
  refine G_if_ne (M := mLaw) 1507 1495 (by decide) rfl dL_law_1492 (fun _ => G_goto (M := mLaw) 2091 (by decide) dL_law_1507 (G_sub [2, 3, 4, 5, 6] rfl kk)) (fun h9 => ?_)
  refine G_aload_n (M := mLaw) 1496 rfl dL_law_1495 rfl 5 rfl ?_
  refine G_iconst (M := mLaw) (v := 0) 1497 rfl dL_law_1496 (by decide) ?_
  refine G_lald (M := mLaw) 1498 rfl dL_law_1497 sh160 inL0 ?_
  refine G_iload (M := mLaw) 1500 rfl dL_law_1498 0 rfl ?_
  refine G_i2l (M := mLaw) 1501 rfl dL_law_1500 ?_
  exact G_lc_eq (M := mLaw) 1507 1502 1505 (by decide) rfl rfl dL_law_1501 dL_law_1502 (fun _ => G_goto (M := mLaw) 2091 (by decide) dL_law_1507 (G_sub [2, 3, 4, 5, 6] rfl kk)) (fun h8 => absurd (h0 h9) h8)
theorem B_suspects {g : Gx} {Ln i b : Nat} {xs : Nat → Int32} (hi : i + 6 ≤ Ln) (hL : Ln ≤ 3072) {I I' : MI} {L L' : ML} (h : SI ["java/lang/IndexOutOfBoundsException"] (f_X11_suspects (xs (i + 1)) I L) (f_X12_suspects (xs (i + 1))) I' L') (kk : EG (PL g Ln xs) QL g 53 b mLaw 2091 (lv5 (nI i)) [] (I', L')) : EG (PL g Ln xs) QL g 53 (b + 1) mLaw 1510 (lv5 (nI i)) [] (I, L) := by
  obtain ⟨ra, k, L1, rb, ha, hk, hb, ht, h0, rfl, rfl⟩ := h
  refine G_aload_n (M := mLaw) 1511 rfl dL_law_1510 rfl 1 rfl ?_
  refine G_arg (M := mLaw) 0 1 1517 rfl dL_law_1511 dL_law_1512 dL_law_1514 dL_law_1515 dL_law_1516 rfl rfl (by decide) (by omega) hL ?_
  refine G_aload_n (M := mLaw) 1518 rfl dL_law_1517 rfl 3 rfl ?_
  refine G_callW (M := mLaw) (As := [.ref 0, .int (xs (i + 1)), .ref 160]) (st := []) PL_nc 1521 rfl dL_law_1518 ckW_185 rfl (by decide) (by decide) (D_L_suspects (g := g) ha hk) rfl ?_
  refine G_istore (M := mLaw) (lv' := (5, .int k) :: lv5 (nI i)) 1523 rfl dL_law_1521 (by decide) rfl ?_
  refine G_aload_n (M := mLaw) 1524 rfl dL_law_1523 rfl 3 rfl ?_
  refine G_arg (M := mLaw) 1 1 1530 rfl dL_law_1524 dL_law_1525 dL_law_1527 dL_law_1528 dL_law_1529 rfl rfl (by decide) (by omega) hL ?_
  refine G_cV1 (M := mLaw) (As := [.int (xs (i + 1))]) (st := []) 1533 rfl dL_law_1530 shz149 ckL_187 cvL_X12_suspects rfl (by decide) (by decide) (C_X12_suspects (g := g) hb) rfl ?_
  refine G_istore (M := mLaw) (lv' := (6, .int rb.1) :: (5, .int k) :: lv5 (nI i)) 1535 rfl dL_law_1533 (by decide) rfl ?_
  refine G_aload_n (M := mLaw) 1536 rfl dL_law_1535 rfl 4 rfl ?_
  refine G_cV1 (M := mLaw) (As := []) (st := []) 1539 rfl dL_law_1536 shz149 ckL_119 cvL_X12_thrown rfl (by decide) (by decide) (C_X12_thrown (g := g) ht) rfl ?_
  refine G_iload (M := mLaw) 1541 rfl dL_law_1539 1 rfl ?_
  refine G_icmp_eq (M := mLaw) 1546 1544 (by decide) rfl dL_law_1541 (fun _ => ?_) (fun h9 => absurd rfl h9)
  refine G_iload (M := mLaw) 1548 rfl dL_law_1546 1 rfl ?_
  refine G_if_ne (M := mLaw) 1563 1551 (by decide) rfl dL_law_1548 (fun _ => G_goto (M := mLaw) 2091 (by decide) dL_law_1563 (G_sub [2, 3, 4, 5, 6] rfl kk)) (fun h9 => ?_)
  refine G_aload_n (M := mLaw) 1552 rfl dL_law_1551 rfl 5 rfl ?_
  refine G_iconst (M := mLaw) (v := 0) 1553 rfl dL_law_1552 (by decide) ?_
  refine G_lald (M := mLaw) 1554 rfl dL_law_1553 sh160 inL0 ?_
  refine G_iload (M := mLaw) 1556 rfl dL_law_1554 0 rfl ?_
  refine G_i2l (M := mLaw) 1557 rfl dL_law_1556 ?_
  exact G_lc_eq (M := mLaw) 1563 1558 1561 (by decide) rfl rfl dL_law_1557 dL_law_1558 (fun _ => G_goto (M := mLaw) 2091 (by decide) dL_law_1563 (G_sub [2, 3, 4, 5, 6] rfl kk)) (fun h8 => absurd (h0 h9) h8)
theorem B_ghost {g : Gx} {Ln i b : Nat} {xs : Nat → Int32} (hi : i + 6 ≤ Ln) (hL : Ln ≤ 3072) {I I' : MI} {L L' : ML} (h : SI ["java/util/NoSuchElementException", "java/lang/IllegalArgumentException"] (f_X11_ghost (xs (i + 1)) I L) (f_X12_ghost (xs (i + 1))) I' L') (kk : EG (PL g Ln xs) QL g 53 b mLaw 2091 (lv5 (nI i)) [] (I', L')) : EG (PL g Ln xs) QL g 53 (b + 1) mLaw 1566 (lv5 (nI i)) [] (I, L) := by
  obtain ⟨ra, k, L1, rb, ha, hk, hb, ht, h0, rfl, rfl⟩ := h
  refine G_aload_n (M := mLaw) 1567 rfl dL_law_1566 rfl 1 rfl ?_
  refine G_arg (M := mLaw) 0 1 1573 rfl dL_law_1567 dL_law_1568 dL_law_1570 dL_law_1571 dL_law_1572 rfl rfl (by decide) (by omega) hL ?_
  refine G_aload_n (M := mLaw) 1574 rfl dL_law_1573 rfl 3 rfl ?_
  refine G_callW (M := mLaw) (As := [.ref 0, .int (xs (i + 1)), .ref 160]) (st := []) PL_nc 1577 rfl dL_law_1574 ckW_188 rfl (by decide) (by decide) (D_L_ghost (g := g) ha hk) rfl ?_
  refine G_istore (M := mLaw) (lv' := (5, .int k) :: lv5 (nI i)) 1579 rfl dL_law_1577 (by decide) rfl ?_
  refine G_aload_n (M := mLaw) 1580 rfl dL_law_1579 rfl 3 rfl ?_
  refine G_arg (M := mLaw) 1 1 1586 rfl dL_law_1580 dL_law_1581 dL_law_1583 dL_law_1584 dL_law_1585 rfl rfl (by decide) (by omega) hL ?_
  refine G_cV1 (M := mLaw) (As := [.int (xs (i + 1))]) (st := []) 1589 rfl dL_law_1586 shz149 ckL_190 cvL_X12_ghost rfl (by decide) (by decide) (C_X12_ghost (g := g) hb) rfl ?_
  refine G_istore (M := mLaw) (lv' := (6, .int rb.1) :: (5, .int k) :: lv5 (nI i)) 1591 rfl dL_law_1589 (by decide) rfl ?_
  refine G_aload_n (M := mLaw) 1592 rfl dL_law_1591 rfl 4 rfl ?_
  refine G_cV1 (M := mLaw) (As := []) (st := []) 1595 rfl dL_law_1592 shz149 ckL_119 cvL_X12_thrown rfl (by decide) (by decide) (C_X12_thrown (g := g) ht) rfl ?_
  refine G_iload (M := mLaw) 1597 rfl dL_law_1595 1 rfl ?_
  refine G_icmp_eq (M := mLaw) 1602 1600 (by decide) rfl dL_law_1597 (fun _ => ?_) (fun h9 => absurd rfl h9)
  refine G_iload (M := mLaw) 1604 rfl dL_law_1602 1 rfl ?_
  refine G_if_ne (M := mLaw) 1619 1607 (by decide) rfl dL_law_1604 (fun _ => G_goto (M := mLaw) 2091 (by decide) dL_law_1619 (G_sub [2, 3, 4, 5, 6] rfl kk)) (fun h9 => ?_)
  refine G_aload_n (M := mLaw) 1608 rfl dL_law_1607 rfl 5 rfl ?_
  refine G_iconst (M := mLaw) (v := 0) 1609 rfl dL_law_1608 (by decide) ?_
  refine G_lald (M := mLaw) 1610 rfl dL_law_1609 sh160 inL0 ?_
  refine G_iload (M := mLaw) 1612 rfl dL_law_1610 0 rfl ?_
  refine G_i2l (M := mLaw) 1613 rfl dL_law_1612 ?_
  exact G_lc_eq (M := mLaw) 1619 1614 1617 (by decide) rfl rfl dL_law_1613 dL_law_1614 (fun _ => G_goto (M := mLaw) 2091 (by decide) dL_law_1619 (G_sub [2, 3, 4, 5, 6] rfl kk)) (fun h8 => absurd (h0 h9) h8)
theorem B_breach {g : Gx} {Ln i b : Nat} {xs : Nat → Int32} (hi : i + 6 ≤ Ln) (hL : Ln ≤ 3072) {I I' : MI} {L L' : ML} (h : SJ ["java/lang/IndexOutOfBoundsException", "java/lang/IllegalArgumentException"] (f_X11_breach (xs (i + 1)) (xs (i + 2)) I L) (f_X12_breach (xs (i + 1)) (xs (i + 2))) I' L') (kk : EG (PL g Ln xs) QL g 53 b mLaw 2091 (lv5 (nI i)) [] (I', L')) : EG (PL g Ln xs) QL g 53 (b + 1) mLaw 1622 (lv5 (nI i)) [] (I, L) := by
  obtain ⟨ra, k, L1, rb, ha, hk, hb, ht, h0, rfl, rfl⟩ := h
  refine G_aload_n (M := mLaw) 1623 rfl dL_law_1622 rfl 1 rfl ?_
  refine G_arg (M := mLaw) 0 1 1629 rfl dL_law_1623 dL_law_1624 dL_law_1626 dL_law_1627 dL_law_1628 rfl rfl (by decide) (by omega) hL ?_
  refine G_arg (M := mLaw) 0 2 1635 rfl dL_law_1629 dL_law_1630 dL_law_1632 dL_law_1633 dL_law_1634 rfl rfl (by decide) (by omega) hL ?_
  refine G_aload_n (M := mLaw) 1636 rfl dL_law_1635 rfl 3 rfl ?_
  refine G_callW (M := mLaw) (As := [.ref 0, .int (xs (i + 1)), .int (xs (i + 2)), .ref 160]) (st := []) PL_nc 1639 rfl dL_law_1636 ckW_191 rfl (by decide) (by decide) (D_L_breach (g := g) ha hk) rfl ?_
  refine G_istore (M := mLaw) (lv' := (5, .int k) :: lv5 (nI i)) 1641 rfl dL_law_1639 (by decide) rfl ?_
  refine G_aload_n (M := mLaw) 1642 rfl dL_law_1641 rfl 3 rfl ?_
  refine G_arg (M := mLaw) 1 1 1648 rfl dL_law_1642 dL_law_1643 dL_law_1645 dL_law_1646 dL_law_1647 rfl rfl (by decide) (by omega) hL ?_
  refine G_arg (M := mLaw) 1 2 1654 rfl dL_law_1648 dL_law_1649 dL_law_1651 dL_law_1652 dL_law_1653 rfl rfl (by decide) (by omega) hL ?_
  refine G_cV1 (M := mLaw) (As := [.int (xs (i + 1)), .int (xs (i + 2))]) (st := []) 1657 rfl dL_law_1654 shz149 ckL_193 cvL_X12_breach rfl (by decide) (by decide) (C_X12_breach (g := g) hb) rfl ?_
  refine G_lstore (M := mLaw) (lv' := (6, .long rb.1) :: (5, .int k) :: lv5 (nI i)) 1659 rfl dL_law_1657 (by decide) rfl ?_
  refine G_aload_n (M := mLaw) 1660 rfl dL_law_1659 rfl 4 rfl ?_
  refine G_cV1 (M := mLaw) (As := []) (st := []) 1663 rfl dL_law_1660 shz149 ckL_119 cvL_X12_thrown rfl (by decide) (by decide) (C_X12_thrown (g := g) ht) rfl ?_
  refine G_iload (M := mLaw) 1665 rfl dL_law_1663 1 rfl ?_
  refine G_icmp_eq (M := mLaw) 1670 1668 (by decide) rfl dL_law_1665 (fun _ => ?_) (fun h9 => absurd rfl h9)
  refine G_iload (M := mLaw) 1672 rfl dL_law_1670 1 rfl ?_
  refine G_if_ne (M := mLaw) 1686 1675 (by decide) rfl dL_law_1672 (fun _ => G_goto (M := mLaw) 2091 (by decide) dL_law_1686 (G_sub [2, 3, 4, 5, 6] rfl kk)) (fun h9 => ?_)
  refine G_aload_n (M := mLaw) 1676 rfl dL_law_1675 rfl 5 rfl ?_
  refine G_iconst (M := mLaw) (v := 0) 1677 rfl dL_law_1676 (by decide) ?_
  refine G_lald (M := mLaw) 1678 rfl dL_law_1677 sh160 inL0 ?_
  refine G_lload (M := mLaw) 1680 rfl dL_law_1678 0 rfl ?_
  exact G_lc_eq (M := mLaw) 1686 1681 1684 (by decide) rfl rfl dL_law_1680 dL_law_1681 (fun _ => G_goto (M := mLaw) 2091 (by decide) dL_law_1686 (G_sub [2, 3, 4, 5, 6] rfl kk)) (fun h8 => absurd (h0 h9) h8)
theorem B_silence {g : Gx} {Ln i b : Nat} {xs : Nat → Int32} (hi : i + 6 ≤ Ln) (hL : Ln ≤ 3072) {I I' : MI} {L L' : ML} (h : SJ ["java/lang/IndexOutOfBoundsException", "java/lang/IllegalArgumentException"] (f_X11_silence (xs (i + 1)) (xs (i + 2)) (xs (i + 3)) (xs (i + 4) != 0) I L) (f_X12_silence (xs (i + 1)) (xs (i + 2)) (xs (i + 3)) (xs (i + 4) != 0)) I' L') (kk : EG (PL g Ln xs) QL g 53 b mLaw 2091 (lv5 (nI i)) [] (I', L')) : EG (PL g Ln xs) QL g 53 (b + 1) mLaw 1689 (lv5 (nI i)) [] (I, L) := by
  obtain ⟨ra, k, L1, rb, ha, hk, hb, ht, h0, rfl, rfl⟩ := h
  refine G_aload_n (M := mLaw) 1690 rfl dL_law_1689 rfl 1 rfl ?_
  refine G_arg (M := mLaw) 0 1 1696 rfl dL_law_1690 dL_law_1691 dL_law_1693 dL_law_1694 dL_law_1695 rfl rfl (by decide) (by omega) hL ?_
  refine G_arg (M := mLaw) 0 2 1702 rfl dL_law_1696 dL_law_1697 dL_law_1699 dL_law_1700 dL_law_1701 rfl rfl (by decide) (by omega) hL ?_
  refine G_arg (M := mLaw) 0 3 1708 rfl dL_law_1702 dL_law_1703 dL_law_1705 dL_law_1706 dL_law_1707 rfl rfl (by decide) (by omega) hL ?_
  refine G_arg (M := mLaw) 0 4 1714 rfl dL_law_1708 dL_law_1709 dL_law_1711 dL_law_1712 dL_law_1713 rfl rfl (by decide) (by omega) hL ?_
  refine G_nz (M := mLaw) 1722 rfl dL_law_1714 dL_law_1717 dL_law_1718 dL_law_1721 ?_
  refine G_aload_n (M := mLaw) 1723 rfl dL_law_1722 rfl 3 rfl ?_
  refine G_callW (M := mLaw) (As := [.ref 0, .int (xs (i + 1)), .int (xs (i + 2)), .int (xs (i + 3)), .int (bI (xs (i + 4) != 0)), .ref 160]) (st := []) PL_nc 1726 rfl dL_law_1723 ckW_194 rfl (by decide) (by decide) (D_L_silence (g := g) ha hk) rfl ?_
  refine G_istore (M := mLaw) (lv' := (5, .int k) :: lv5 (nI i)) 1728 rfl dL_law_1726 (by decide) rfl ?_
  refine G_aload_n (M := mLaw) 1729 rfl dL_law_1728 rfl 3 rfl ?_
  refine G_arg (M := mLaw) 1 1 1735 rfl dL_law_1729 dL_law_1730 dL_law_1732 dL_law_1733 dL_law_1734 rfl rfl (by decide) (by omega) hL ?_
  refine G_arg (M := mLaw) 1 2 1741 rfl dL_law_1735 dL_law_1736 dL_law_1738 dL_law_1739 dL_law_1740 rfl rfl (by decide) (by omega) hL ?_
  refine G_arg (M := mLaw) 1 3 1747 rfl dL_law_1741 dL_law_1742 dL_law_1744 dL_law_1745 dL_law_1746 rfl rfl (by decide) (by omega) hL ?_
  refine G_arg (M := mLaw) 1 4 1753 rfl dL_law_1747 dL_law_1748 dL_law_1750 dL_law_1751 dL_law_1752 rfl rfl (by decide) (by omega) hL ?_
  refine G_nz (M := mLaw) 1761 rfl dL_law_1753 dL_law_1756 dL_law_1757 dL_law_1760 ?_
  refine G_cV1 (M := mLaw) (As := [.int (xs (i + 1)), .int (xs (i + 2)), .int (xs (i + 3)), .int (bI (xs (i + 4) != 0))]) (st := []) 1764 rfl dL_law_1761 shz149 ckL_197 cvL_X12_silence rfl (by decide) (by decide) (C_X12_silence (g := g) hb) rfl ?_
  refine G_lstore (M := mLaw) (lv' := (6, .long rb.1) :: (5, .int k) :: lv5 (nI i)) 1766 rfl dL_law_1764 (by decide) rfl ?_
  refine G_aload_n (M := mLaw) 1767 rfl dL_law_1766 rfl 4 rfl ?_
  refine G_cV1 (M := mLaw) (As := []) (st := []) 1770 rfl dL_law_1767 shz149 ckL_119 cvL_X12_thrown rfl (by decide) (by decide) (C_X12_thrown (g := g) ht) rfl ?_
  refine G_iload (M := mLaw) 1772 rfl dL_law_1770 1 rfl ?_
  refine G_icmp_eq (M := mLaw) 1777 1775 (by decide) rfl dL_law_1772 (fun _ => ?_) (fun h9 => absurd rfl h9)
  refine G_iload (M := mLaw) 1779 rfl dL_law_1777 1 rfl ?_
  refine G_if_ne (M := mLaw) 1793 1782 (by decide) rfl dL_law_1779 (fun _ => G_goto (M := mLaw) 2091 (by decide) dL_law_1793 (G_sub [2, 3, 4, 5, 6] rfl kk)) (fun h9 => ?_)
  refine G_aload_n (M := mLaw) 1783 rfl dL_law_1782 rfl 5 rfl ?_
  refine G_iconst (M := mLaw) (v := 0) 1784 rfl dL_law_1783 (by decide) ?_
  refine G_lald (M := mLaw) 1785 rfl dL_law_1784 sh160 inL0 ?_
  refine G_lload (M := mLaw) 1787 rfl dL_law_1785 0 rfl ?_
  exact G_lc_eq (M := mLaw) 1793 1788 1791 (by decide) rfl rfl dL_law_1787 dL_law_1788 (fun _ => G_goto (M := mLaw) 2091 (by decide) dL_law_1793 (G_sub [2, 3, 4, 5, 6] rfl kk)) (fun h8 => absurd (h0 h9) h8)
theorem B_ears {g : Gx} {Ln i b : Nat} {xs : Nat → Int32} (hi : i + 6 ≤ Ln) (hL : Ln ≤ 3072) {I I' : MI} {L L' : ML} (h : SI ["java/lang/IndexOutOfBoundsException"] (f_X11_ears (xs (i + 1)) (xs (i + 2)) I L) (f_X12_ears (xs (i + 1)) (xs (i + 2))) I' L') (kk : EG (PL g Ln xs) QL g 53 b mLaw 2091 (lv5 (nI i)) [] (I', L')) : EG (PL g Ln xs) QL g 53 (b + 1) mLaw 1796 (lv5 (nI i)) [] (I, L) := by
  obtain ⟨ra, k, L1, rb, ha, hk, hb, ht, h0, rfl, rfl⟩ := h
  refine G_aload_n (M := mLaw) 1797 rfl dL_law_1796 rfl 1 rfl ?_
  refine G_arg (M := mLaw) 0 1 1803 rfl dL_law_1797 dL_law_1798 dL_law_1800 dL_law_1801 dL_law_1802 rfl rfl (by decide) (by omega) hL ?_
  refine G_arg (M := mLaw) 0 2 1809 rfl dL_law_1803 dL_law_1804 dL_law_1806 dL_law_1807 dL_law_1808 rfl rfl (by decide) (by omega) hL ?_
  refine G_aload_n (M := mLaw) 1810 rfl dL_law_1809 rfl 3 rfl ?_
  refine G_callW (M := mLaw) (As := [.ref 0, .int (xs (i + 1)), .int (xs (i + 2)), .ref 160]) (st := []) PL_nc 1813 rfl dL_law_1810 ckW_198 rfl (by decide) (by decide) (D_L_ears (g := g) ha hk) rfl ?_
  refine G_istore (M := mLaw) (lv' := (5, .int k) :: lv5 (nI i)) 1815 rfl dL_law_1813 (by decide) rfl ?_
  refine G_aload_n (M := mLaw) 1816 rfl dL_law_1815 rfl 3 rfl ?_
  refine G_arg (M := mLaw) 1 1 1822 rfl dL_law_1816 dL_law_1817 dL_law_1819 dL_law_1820 dL_law_1821 rfl rfl (by decide) (by omega) hL ?_
  refine G_arg (M := mLaw) 1 2 1828 rfl dL_law_1822 dL_law_1823 dL_law_1825 dL_law_1826 dL_law_1827 rfl rfl (by decide) (by omega) hL ?_
  refine G_cV1 (M := mLaw) (As := [.int (xs (i + 1)), .int (xs (i + 2))]) (st := []) 1831 rfl dL_law_1828 shz149 ckL_200 cvL_X12_ears rfl (by decide) (by decide) (C_X12_ears (g := g) hb) rfl ?_
  refine G_istore (M := mLaw) (lv' := (6, .int rb.1) :: (5, .int k) :: lv5 (nI i)) 1833 rfl dL_law_1831 (by decide) rfl ?_
  refine G_aload_n (M := mLaw) 1834 rfl dL_law_1833 rfl 4 rfl ?_
  refine G_cV1 (M := mLaw) (As := []) (st := []) 1837 rfl dL_law_1834 shz149 ckL_119 cvL_X12_thrown rfl (by decide) (by decide) (C_X12_thrown (g := g) ht) rfl ?_
  refine G_iload (M := mLaw) 1839 rfl dL_law_1837 1 rfl ?_
  refine G_icmp_eq (M := mLaw) 1844 1842 (by decide) rfl dL_law_1839 (fun _ => ?_) (fun h9 => absurd rfl h9)
  refine G_iload (M := mLaw) 1846 rfl dL_law_1844 1 rfl ?_
  refine G_if_ne (M := mLaw) 1861 1849 (by decide) rfl dL_law_1846 (fun _ => G_goto (M := mLaw) 2091 (by decide) dL_law_1861 (G_sub [2, 3, 4, 5, 6] rfl kk)) (fun h9 => ?_)
  refine G_aload_n (M := mLaw) 1850 rfl dL_law_1849 rfl 5 rfl ?_
  refine G_iconst (M := mLaw) (v := 0) 1851 rfl dL_law_1850 (by decide) ?_
  refine G_lald (M := mLaw) 1852 rfl dL_law_1851 sh160 inL0 ?_
  refine G_iload (M := mLaw) 1854 rfl dL_law_1852 0 rfl ?_
  refine G_i2l (M := mLaw) 1855 rfl dL_law_1854 ?_
  exact G_lc_eq (M := mLaw) 1861 1856 1859 (by decide) rfl rfl dL_law_1855 dL_law_1856 (fun _ => G_goto (M := mLaw) 2091 (by decide) dL_law_1861 (G_sub [2, 3, 4, 5, 6] rfl kk)) (fun h8 => absurd (h0 h9) h8)
theorem B_seat {g : Gx} {Ln i b : Nat} {xs : Nat → Int32} (hi : i + 6 ≤ Ln) (hL : Ln ≤ 3072) {I I' : MI} {L L' : ML} (h : SI ["java/lang/IndexOutOfBoundsException"] (f_X11_seat (xs (i + 1)) I L) (f_X12_seat (xs (i + 1))) I' L') (kk : EG (PL g Ln xs) QL g 53 b mLaw 2091 (lv5 (nI i)) [] (I', L')) : EG (PL g Ln xs) QL g 53 (b + 1) mLaw 1864 (lv5 (nI i)) [] (I, L) := by
  obtain ⟨ra, k, L1, rb, ha, hk, hb, ht, h0, rfl, rfl⟩ := h
  refine G_aload_n (M := mLaw) 1865 rfl dL_law_1864 rfl 1 rfl ?_
  refine G_arg (M := mLaw) 0 1 1871 rfl dL_law_1865 dL_law_1866 dL_law_1868 dL_law_1869 dL_law_1870 rfl rfl (by decide) (by omega) hL ?_
  refine G_aload_n (M := mLaw) 1872 rfl dL_law_1871 rfl 3 rfl ?_
  refine G_callW (M := mLaw) (As := [.ref 0, .int (xs (i + 1)), .ref 160]) (st := []) PL_nc 1875 rfl dL_law_1872 ckW_201 rfl (by decide) (by decide) (D_L_seat (g := g) ha hk) rfl ?_
  refine G_istore (M := mLaw) (lv' := (5, .int k) :: lv5 (nI i)) 1877 rfl dL_law_1875 (by decide) rfl ?_
  refine G_aload_n (M := mLaw) 1878 rfl dL_law_1877 rfl 3 rfl ?_
  refine G_arg (M := mLaw) 1 1 1884 rfl dL_law_1878 dL_law_1879 dL_law_1881 dL_law_1882 dL_law_1883 rfl rfl (by decide) (by omega) hL ?_
  refine G_cV1 (M := mLaw) (As := [.int (xs (i + 1))]) (st := []) 1887 rfl dL_law_1884 shz149 ckL_203 cvL_X12_seat rfl (by decide) (by decide) (C_X12_seat (g := g) hb) rfl ?_
  refine G_istore (M := mLaw) (lv' := (6, .int rb.1) :: (5, .int k) :: lv5 (nI i)) 1889 rfl dL_law_1887 (by decide) rfl ?_
  refine G_aload_n (M := mLaw) 1890 rfl dL_law_1889 rfl 4 rfl ?_
  refine G_cV1 (M := mLaw) (As := []) (st := []) 1893 rfl dL_law_1890 shz149 ckL_119 cvL_X12_thrown rfl (by decide) (by decide) (C_X12_thrown (g := g) ht) rfl ?_
  refine G_iload (M := mLaw) 1895 rfl dL_law_1893 1 rfl ?_
  refine G_icmp_eq (M := mLaw) 1900 1898 (by decide) rfl dL_law_1895 (fun _ => ?_) (fun h9 => absurd rfl h9)
  refine G_iload (M := mLaw) 1902 rfl dL_law_1900 1 rfl ?_
  refine G_if_ne (M := mLaw) 1917 1905 (by decide) rfl dL_law_1902 (fun _ => G_goto (M := mLaw) 2091 (by decide) dL_law_1917 (G_sub [2, 3, 4, 5, 6] rfl kk)) (fun h9 => ?_)
  refine G_aload_n (M := mLaw) 1906 rfl dL_law_1905 rfl 5 rfl ?_
  refine G_iconst (M := mLaw) (v := 0) 1907 rfl dL_law_1906 (by decide) ?_
  refine G_lald (M := mLaw) 1908 rfl dL_law_1907 sh160 inL0 ?_
  refine G_iload (M := mLaw) 1910 rfl dL_law_1908 0 rfl ?_
  refine G_i2l (M := mLaw) 1911 rfl dL_law_1910 ?_
  exact G_lc_eq (M := mLaw) 1917 1912 1915 (by decide) rfl rfl dL_law_1911 dL_law_1912 (fun _ => G_goto (M := mLaw) 2091 (by decide) dL_law_1917 (G_sub [2, 3, 4, 5, 6] rfl kk)) (fun h8 => absurd (h0 h9) h8)
theorem B_value {g : Gx} {Ln i b : Nat} {xs : Nat → Int32} (hi : i + 6 ≤ Ln) (hL : Ln ≤ 3072) {I I' : MI} {L L' : ML} (h : SJ ["java/lang/IndexOutOfBoundsException"] (f_X11_value (xs (i + 1)) I L) (f_X12_value (xs (i + 1))) I' L') (kk : EG (PL g Ln xs) QL g 53 b mLaw 2091 (lv5 (nI i)) [] (I', L')) : EG (PL g Ln xs) QL g 53 (b + 1) mLaw 1920 (lv5 (nI i)) [] (I, L) := by
  obtain ⟨ra, k, L1, rb, ha, hk, hb, ht, h0, rfl, rfl⟩ := h
  refine G_aload_n (M := mLaw) 1921 rfl dL_law_1920 rfl 1 rfl ?_
  refine G_arg (M := mLaw) 0 1 1927 rfl dL_law_1921 dL_law_1922 dL_law_1924 dL_law_1925 dL_law_1926 rfl rfl (by decide) (by omega) hL ?_
  refine G_aload_n (M := mLaw) 1928 rfl dL_law_1927 rfl 3 rfl ?_
  refine G_callW (M := mLaw) (As := [.ref 0, .int (xs (i + 1)), .ref 160]) (st := []) PL_nc 1931 rfl dL_law_1928 ckW_204 rfl (by decide) (by decide) (D_L_value (g := g) ha hk) rfl ?_
  refine G_istore (M := mLaw) (lv' := (5, .int k) :: lv5 (nI i)) 1933 rfl dL_law_1931 (by decide) rfl ?_
  refine G_aload_n (M := mLaw) 1934 rfl dL_law_1933 rfl 3 rfl ?_
  refine G_arg (M := mLaw) 1 1 1940 rfl dL_law_1934 dL_law_1935 dL_law_1937 dL_law_1938 dL_law_1939 rfl rfl (by decide) (by omega) hL ?_
  refine G_cV1 (M := mLaw) (As := [.int (xs (i + 1))]) (st := []) 1943 rfl dL_law_1940 shz149 ckL_206 cvL_X12_value rfl (by decide) (by decide) (C_X12_value (g := g) hb) rfl ?_
  refine G_lstore (M := mLaw) (lv' := (6, .long rb.1) :: (5, .int k) :: lv5 (nI i)) 1945 rfl dL_law_1943 (by decide) rfl ?_
  refine G_aload_n (M := mLaw) 1946 rfl dL_law_1945 rfl 4 rfl ?_
  refine G_cV1 (M := mLaw) (As := []) (st := []) 1949 rfl dL_law_1946 shz149 ckL_119 cvL_X12_thrown rfl (by decide) (by decide) (C_X12_thrown (g := g) ht) rfl ?_
  refine G_iload (M := mLaw) 1951 rfl dL_law_1949 1 rfl ?_
  refine G_icmp_eq (M := mLaw) 1956 1954 (by decide) rfl dL_law_1951 (fun _ => ?_) (fun h9 => absurd rfl h9)
  refine G_iload (M := mLaw) 1958 rfl dL_law_1956 1 rfl ?_
  refine G_if_ne (M := mLaw) 1972 1961 (by decide) rfl dL_law_1958 (fun _ => G_goto (M := mLaw) 2091 (by decide) dL_law_1972 (G_sub [2, 3, 4, 5, 6] rfl kk)) (fun h9 => ?_)
  refine G_aload_n (M := mLaw) 1962 rfl dL_law_1961 rfl 5 rfl ?_
  refine G_iconst (M := mLaw) (v := 0) 1963 rfl dL_law_1962 (by decide) ?_
  refine G_lald (M := mLaw) 1964 rfl dL_law_1963 sh160 inL0 ?_
  refine G_lload (M := mLaw) 1966 rfl dL_law_1964 0 rfl ?_
  exact G_lc_eq (M := mLaw) 1972 1967 1970 (by decide) rfl rfl dL_law_1966 dL_law_1967 (fun _ => G_goto (M := mLaw) 2091 (by decide) dL_law_1972 (G_sub [2, 3, 4, 5, 6] rfl kk)) (fun h8 => absurd (h0 h9) h8)
theorem B_sale {g : Gx} {Ln i b : Nat} {xs : Nat → Int32} (hi : i + 6 ≤ Ln) (hL : Ln ≤ 3072) {I I' : MI} {L L' : ML} (h : SD (f_X11_sale (xs (i + 1) != 0) I L) (f_X12_sale (xs (i + 1) != 0)) I' L') (kk : EG (PL g Ln xs) QL g 53 b mLaw 2091 (lv5 (nI i)) [] (I', L')) : EG (PL g Ln xs) QL g 53 (b + 1) mLaw 1975 (lv5 (nI i)) [] (I, L) := by
  obtain ⟨ra, rb, ha, hb, he, rfl, rfl⟩ := h
  refine G_less (b' := b) (Nat.le_succ b) ?_
  refine G_aload_n (M := mLaw) 1976 rfl dL_law_1975 rfl 1 rfl ?_
  refine G_arg (M := mLaw) 0 1 1982 rfl dL_law_1976 dL_law_1977 dL_law_1979 dL_law_1980 dL_law_1981 rfl rfl (by decide) (by omega) hL ?_
  refine G_nz (M := mLaw) 1990 rfl dL_law_1982 dL_law_1985 dL_law_1986 dL_law_1989 ?_
  refine G_cV1 (M := mLaw) (As := [.int (bI (xs (i + 1) != 0))]) (st := []) 1993 rfl dL_law_1990 shz0 ckL_207 cvL_X11_sale rfl (by decide) (by decide) (C_X11_sale (g := g) ha) rfl ?_
  refine G_aload_n (M := mLaw) 1994 rfl dL_law_1993 rfl 2 rfl ?_
  refine G_arg (M := mLaw) 0 1 2000 rfl dL_law_1994 dL_law_1995 dL_law_1997 dL_law_1998 dL_law_1999 rfl rfl (by decide) (by omega) hL ?_
  refine G_nz (M := mLaw) 2008 rfl dL_law_2000 dL_law_2003 dL_law_2004 dL_law_2007 ?_
  refine G_cV1 (M := mLaw) (As := [.int (bI (xs (i + 1) != 0))]) (st := [.long ra.1]) 2011 rfl dL_law_2008 shz149 ckL_211 cvL_X12_sale rfl (by decide) (Nat.le_of_ble_eq_true rfl) (C_X12_sale (g := g) hb) rfl ?_
  exact G_lc_eq (M := mLaw) 2091 2012 2015 (by decide) rfl rfl dL_law_2011 dL_law_2012 (fun _ => kk) (fun h8 => absurd he h8)
theorem B_seed {g : Gx} {Ln i b : Nat} {xs : Nat → Int32} (hi : i + 6 ≤ Ln) (hL : Ln ≤ 3072) {I I' : MI} {L L' : ML} (h : SD (f_X11_seed (xs (i + 1)) I L) (f_X12_seed (xs (i + 1))) I' L') (kk : EG (PL g Ln xs) QL g 53 b mLaw 2091 (lv5 (nI i)) [] (I', L')) : EG (PL g Ln xs) QL g 53 (b + 1) mLaw 2017 (lv5 (nI i)) [] (I, L) := by
  obtain ⟨ra, rb, ha, hb, he, rfl, rfl⟩ := h
  refine G_less (b' := b) (Nat.le_succ b) ?_
  refine G_aload_n (M := mLaw) 2018 rfl dL_law_2017 rfl 1 rfl ?_
  refine G_arg (M := mLaw) 0 1 2024 rfl dL_law_2018 dL_law_2019 dL_law_2021 dL_law_2022 dL_law_2023 rfl rfl (by decide) (by omega) hL ?_
  refine G_cV1 (M := mLaw) (As := [.int (xs (i + 1))]) (st := []) 2027 rfl dL_law_2024 shz0 ckL_212 cvL_X11_seed rfl (by decide) (by decide) (C_X11_seed (g := g) ha) rfl ?_
  refine G_aload_n (M := mLaw) 2028 rfl dL_law_2027 rfl 2 rfl ?_
  refine G_arg (M := mLaw) 0 1 2034 rfl dL_law_2028 dL_law_2029 dL_law_2031 dL_law_2032 dL_law_2033 rfl rfl (by decide) (by omega) hL ?_
  refine G_cV1 (M := mLaw) (As := [.int (xs (i + 1))]) (st := [.int ra.1]) 2037 rfl dL_law_2034 shz149 ckL_215 cvL_X12_seed rfl (by decide) (Nat.le_of_ble_eq_true rfl) (C_X12_seed (g := g) hb) rfl ?_
  exact G_icmp_eq (M := mLaw) 2091 2040 (by decide) rfl dL_law_2037 (fun _ => kk) (fun h8 => absurd (by rw [he]) h8)
theorem B_image {g : Gx} {Ln i b : Nat} {xs : Nat → Int32} (hi : i + 6 ≤ Ln) (hL : Ln ≤ 3072) {I I' : MI} {L L' : ML} (h : SV (f_X11_image I L) f_X12_image I' L') (kk : EG (PL g Ln xs) QL g 53 b mLaw 2091 (lv5 (nI i)) [] (I', L')) : EG (PL g Ln xs) QL g 53 (b + 1) mLaw 2042 (lv5 (nI i)) [] (I, L) := by
  obtain ⟨ra, rb, ha, hb, rfl, rfl⟩ := h
  refine G_less (b' := b) (Nat.le_succ b) ?_
  refine G_aload_n (M := mLaw) 2043 rfl dL_law_2042 rfl 1 rfl ?_
  refine G_cV0 (M := mLaw) (As := []) (st := []) 2046 rfl dL_law_2043 shz0 ckL_216 cvL_X11_image rfl (by decide) (by decide) (C_X11_image (g := g) ha) rfl ?_
  refine G_aload_n (M := mLaw) 2047 rfl dL_law_2046 rfl 2 rfl ?_
  refine G_cV0 (M := mLaw) (As := []) (st := []) 2050 rfl dL_law_2047 shz149 ckL_219 cvL_X12_image rfl (by decide) (Nat.le_of_ble_eq_true rfl) (C_X12_image (g := g) hb) rfl ?_
  exact G_goto (M := mLaw) 2091 (by decide) dL_law_2050 kk
theorem B_back {g : Gx} {Ln i b : Nat} {xs : Nat → Int32} (hi : i + 6 ≤ Ln) (hL : Ln ≤ 3072) {I I' : MI} {L L' : ML} (h : SD (f_X11_back  I L) (f_X12_back ) I' L') (kk : EG (PL g Ln xs) QL g 53 b mLaw 2091 (lv5 (nI i)) [] (I', L')) : EG (PL g Ln xs) QL g 53 (b + 1) mLaw 2053 (lv5 (nI i)) [] (I, L) := by
  obtain ⟨ra, rb, ha, hb, he, rfl, rfl⟩ := h
  refine G_less (b' := b) (Nat.le_succ b) ?_
  refine G_aload_n (M := mLaw) 2054 rfl dL_law_2053 rfl 1 rfl ?_
  refine G_cV1 (M := mLaw) (As := []) (st := []) 2057 rfl dL_law_2054 shz0 ckL_220 cvL_X11_back rfl (by decide) (by decide) (C_X11_back (g := g) ha) rfl ?_
  refine G_aload_n (M := mLaw) 2058 rfl dL_law_2057 rfl 2 rfl ?_
  refine G_cV1 (M := mLaw) (As := []) (st := [.int (bI ra.1)]) 2061 rfl dL_law_2058 shz149 ckL_223 cvL_X12_back rfl (by decide) (Nat.le_of_ble_eq_true rfl) (C_X12_back (g := g) hb) rfl ?_
  exact G_icmp_eq (M := mLaw) 2091 2064 (by decide) rfl dL_law_2061 (fun _ => kk) (fun h8 => absurd (by rw [he]) h8)
theorem B_count {g : Gx} {Ln i b : Nat} {xs : Nat → Int32} (hi : i + 6 ≤ Ln) (hL : Ln ≤ 3072) {I I' : MI} {L L' : ML} (h : SP (f_X11_count (xs (i + 1)) I L) (f_X12_count (xs (i + 1)) I L) I' L') (kk : EG (PL g Ln xs) QL g 53 b mLaw 2091 (lv5 (nI i)) [] (I', L')) : EG (PL g Ln xs) QL g 53 (b + 1) mLaw 2066 (lv5 (nI i)) [] (I, L) := by
  obtain ⟨ra, rb, ha, hb, he, rfl, rfl⟩ := h
  refine G_less (b' := b) (Nat.le_succ b) ?_
  refine G_aload_n (M := mLaw) 2067 rfl dL_law_2066 rfl 1 rfl ?_
  refine G_arg (M := mLaw) 0 1 2073 rfl dL_law_2067 dL_law_2068 dL_law_2070 dL_law_2071 dL_law_2072 rfl rfl (by decide) (by omega) hL ?_
  refine G_cV1 (M := mLaw) (As := [.int (xs (i + 1))]) (st := []) 2076 rfl dL_law_2073 shz0 ckL_224 cvL_X11_count rfl (by decide) (by decide) (C_X11_count (g := g) ha) rfl ?_
  refine G_aload_n (M := mLaw) 2077 rfl dL_law_2076 rfl 2 rfl ?_
  refine G_arg (M := mLaw) 0 1 2083 rfl dL_law_2077 dL_law_2078 dL_law_2080 dL_law_2081 dL_law_2082 rfl rfl (by decide) (by omega) hL ?_
  refine G_cV1 (M := mLaw) (As := [.int (xs (i + 1))]) (st := [.int ra]) 2086 rfl dL_law_2083 shz149 ckL_227 cvL_X12_count rfl (by decide) (Nat.le_of_ble_eq_true rfl) (C_X12_count (g := g) hb) rfl ?_
  exact G_icmp_eq (M := mLaw) 2091 2089 (by decide) rfl dL_law_2086 (fun _ => kk) (fun h8 => absurd (by rw [he]) h8)
/-- one call of the script, by its number -/
def Step (o a1 a2 a3 a4 a5 : Int32) (I : MI) (L : ML) (I' : MI) (L' : ML) : Prop :=
  if o = 0 then SD (f_X11_feed a1 a2 a3 a4 a5 I L) (f_X12_feed a1 a2 a3 a4 a5) I' L' else
  if o = 1 then SD (f_X11_end a1 I L) (f_X12_end a1) I' L' else
  if o = 2 then SI ["java/lang/IllegalArgumentException", "java/lang/UnsupportedOperationException"] (f_X11_house  I L) (f_X12_house ) I' L' else
  if o = 3 then SI ["java/lang/IllegalArgumentException"] (f_X11_will  I L) (f_X12_will ) I' L' else
  if o = 4 then SP (f_X11_fault  I L) (f_X12_fault  I L) I' L' else
  if o = 5 then SI ["java/lang/IndexOutOfBoundsException", "java/util/NoSuchElementException"] (f_X11_room a1 a2 I L) (f_X12_room a1 a2) I' L' else
  if o = 6 then SI ["java/lang/IndexOutOfBoundsException", "java/util/NoSuchElementException"] (f_X11_heir a1 a2 I L) (f_X12_heir a1 a2) I' L' else
  if o = 7 then SI ["java/lang/IndexOutOfBoundsException", "java/util/NoSuchElementException"] (f_X11_noise a1 a2 I L) (f_X12_noise a1 a2) I' L' else
  if o = 8 then SI ["java/lang/IndexOutOfBoundsException"] (f_X11_cost a1 a2 I L) (f_X12_cost a1 a2) I' L' else
  if o = 9 then SI ["java/lang/IndexOutOfBoundsException"] (f_X11_at a1 a2 I L) (f_X12_at a1 a2) I' L' else
  if o = 10 then SI ["java/lang/IndexOutOfBoundsException"] (f_X11_title a1 a2 I L) (f_X12_title a1 a2) I' L' else
  if o = 11 then SI ["java/lang/IndexOutOfBoundsException", "java/lang/IllegalArgumentException"] (f_X11_part a1 a2 a3 I L) (f_X12_part a1 a2 a3) I' L' else
  if o = 12 then SI ["java/lang/IllegalArgumentException"] (f_X11_hours a1 I L) (f_X12_hours a1) I' L' else
  if o = 13 then SI ["java/lang/IndexOutOfBoundsException"] (f_X11_go a1 a2 I L) (f_X12_go a1 a2) I' L' else
  if o = 14 then SB ["java/lang/IndexOutOfBoundsException", "java/lang/IllegalArgumentException"] (f_X11_make a1 I L) (f_X12_make a1) I' L' else
  if o = 15 then SI ["java/lang/IndexOutOfBoundsException", "java/lang/IllegalArgumentException"] (f_X11_oil a1 a2 I L) (f_X12_oil a1 a2) I' L' else
  if o = 16 then SI ["java/lang/IndexOutOfBoundsException", "java/lang/IllegalArgumentException"] (f_X11_carpet a1 a2 I L) (f_X12_carpet a1 a2) I' L' else
  if o = 17 then SD (f_X11_undo  I L) (f_X12_undo ) I' L' else
  if o = 18 then SI ["java/lang/IndexOutOfBoundsException", "java/lang/IllegalArgumentException"] (f_X11_odds a1 a2 a3 I L) (f_X12_odds a1 a2 a3) I' L' else
  if o = 19 then SI ["java/lang/IndexOutOfBoundsException", "java/lang/IllegalArgumentException"] (f_X11_likeliest a1 a2 I L) (f_X12_likeliest a1 a2) I' L' else
  if o = 20 then SJ ["java/lang/IndexOutOfBoundsException", "java/lang/IllegalArgumentException"] (f_X11_due a1 a2 I L) (f_X12_due a1 a2) I' L' else
  if o = 21 then SI ["java/lang/IndexOutOfBoundsException", "java/lang/IllegalArgumentException"] (f_X11_quiet a1 a2 a3 I L) (f_X12_quiet a1 a2 a3) I' L' else
  if o = 22 then SI ["java/lang/IndexOutOfBoundsException"] (f_X11_suspects a1 I L) (f_X12_suspects a1) I' L' else
  if o = 23 then SI ["java/util/NoSuchElementException", "java/lang/IllegalArgumentException"] (f_X11_ghost a1 I L) (f_X12_ghost a1) I' L' else
  if o = 24 then SJ ["java/lang/IndexOutOfBoundsException", "java/lang/IllegalArgumentException"] (f_X11_breach a1 a2 I L) (f_X12_breach a1 a2) I' L' else
  if o = 25 then SJ ["java/lang/IndexOutOfBoundsException", "java/lang/IllegalArgumentException"] (f_X11_silence a1 a2 a3 (a4 != 0) I L) (f_X12_silence a1 a2 a3 (a4 != 0)) I' L' else
  if o = 26 then SI ["java/lang/IndexOutOfBoundsException"] (f_X11_ears a1 a2 I L) (f_X12_ears a1 a2) I' L' else
  if o = 27 then SI ["java/lang/IndexOutOfBoundsException"] (f_X11_seat a1 I L) (f_X12_seat a1) I' L' else
  if o = 28 then SJ ["java/lang/IndexOutOfBoundsException"] (f_X11_value a1 I L) (f_X12_value a1) I' L' else
  if o = 29 then SD (f_X11_sale (a1 != 0) I L) (f_X12_sale (a1 != 0)) I' L' else
  if o = 30 then SD (f_X11_seed a1 I L) (f_X12_seed a1) I' L' else
  if o = 31 then SV (f_X11_image I L) f_X12_image I' L' else
  if o = 32 then SD (f_X11_back  I L) (f_X12_back ) I' L' else
  if o = 33 then SP (f_X11_count a1 I L) (f_X12_count a1 I L) I' L' else
  I' = I ∧ L' = L
theorem law_body {g : Gx} {Ln i b : Nat} {xs : Nat → Int32} (hi : i + 6 ≤ Ln) (hL : Ln ≤ 3072) {I I' : MI} {L L' : ML} (h : Step (xs i &&& 63) (xs (i + 1)) (xs (i + 2)) (xs (i + 3)) (xs (i + 4)) (xs (i + 5)) I L I' L') (kk : EG (PL g Ln xs) QL g 53 b mLaw 2091 (lv5 (nI i)) [] (I', L')) : EG (PL g Ln xs) QL g 53 (b + 1) mLaw 40 (lv5 (nI i)) [.int (xs i &&& 63)] (I, L) := by
  unfold Step at h
  generalize xs i &&& 63 = o at h ⊢
  by_cases c0 : o = 0
  · rw [if_pos c0] at h
    refine G_tsIn (M := mLaw) (off := 152) 0 c0 192 (by decide) (by decide) (by decide) rfl dL_law_40 ?_
    exact B_feed hi hL h kk
  rw [if_neg c0] at h
  by_cases c1 : o = 1
  · rw [if_pos c1] at h
    refine G_tsIn (M := mLaw) (off := 225) 1 c1 265 (by decide) (by decide) (by decide) rfl dL_law_40 ?_
    exact B_end hi hL h kk
  rw [if_neg c1] at h
  by_cases c2 : o = 2
  · rw [if_pos c2] at h
    refine G_tsIn (M := mLaw) (off := 250) 2 c2 290 (by decide) (by decide) (by decide) rfl dL_law_40 ?_
    exact B_house hi hL h kk
  rw [if_neg c2] at h
  by_cases c3 : o = 3
  · rw [if_pos c3] at h
    refine G_tsIn (M := mLaw) (off := 294) 3 c3 334 (by decide) (by decide) (by decide) rfl dL_law_40 ?_
    exact B_will hi hL h kk
  rw [if_neg c3] at h
  by_cases c4 : o = 4
  · rw [if_pos c4] at h
    refine G_tsIn (M := mLaw) (off := 338) 4 c4 378 (by decide) (by decide) (by decide) rfl dL_law_40 ?_
    exact B_fault hi hL h kk
  rw [if_neg c4] at h
  by_cases c5 : o = 5
  · rw [if_pos c5] at h
    refine G_tsIn (M := mLaw) (off := 351) 5 c5 391 (by decide) (by decide) (by decide) rfl dL_law_40 ?_
    exact B_room hi hL h kk
  rw [if_neg c5] at h
  by_cases c6 : o = 6
  · rw [if_pos c6] at h
    refine G_tsIn (M := mLaw) (off := 419) 6 c6 459 (by decide) (by decide) (by decide) rfl dL_law_40 ?_
    exact B_heir hi hL h kk
  rw [if_neg c6] at h
  by_cases c7 : o = 7
  · rw [if_pos c7] at h
    refine G_tsIn (M := mLaw) (off := 487) 7 c7 527 (by decide) (by decide) (by decide) rfl dL_law_40 ?_
    exact B_noise hi hL h kk
  rw [if_neg c7] at h
  by_cases c8 : o = 8
  · rw [if_pos c8] at h
    refine G_tsIn (M := mLaw) (off := 555) 8 c8 595 (by decide) (by decide) (by decide) rfl dL_law_40 ?_
    exact B_cost hi hL h kk
  rw [if_neg c8] at h
  by_cases c9 : o = 9
  · rw [if_pos c9] at h
    refine G_tsIn (M := mLaw) (off := 623) 9 c9 663 (by decide) (by decide) (by decide) rfl dL_law_40 ?_
    exact B_at hi hL h kk
  rw [if_neg c9] at h
  by_cases c10 : o = 10
  · rw [if_pos c10] at h
    refine G_tsIn (M := mLaw) (off := 691) 10 c10 731 (by decide) (by decide) (by decide) rfl dL_law_40 ?_
    exact B_title hi hL h kk
  rw [if_neg c10] at h
  by_cases c11 : o = 11
  · rw [if_pos c11] at h
    refine G_tsIn (M := mLaw) (off := 759) 11 c11 799 (by decide) (by decide) (by decide) rfl dL_law_40 ?_
    exact B_part hi hL h kk
  rw [if_neg c11] at h
  by_cases c12 : o = 12
  · rw [if_pos c12] at h
    refine G_tsIn (M := mLaw) (off := 839) 12 c12 879 (by decide) (by decide) (by decide) rfl dL_law_40 ?_
    exact B_hours hi hL h kk
  rw [if_neg c12] at h
  by_cases c13 : o = 13
  · rw [if_pos c13] at h
    refine G_tsIn (M := mLaw) (off := 895) 13 c13 935 (by decide) (by decide) (by decide) rfl dL_law_40 ?_
    exact B_go hi hL h kk
  rw [if_neg c13] at h
  by_cases c14 : o = 14
  · rw [if_pos c14] at h
    refine G_tsIn (M := mLaw) (off := 963) 14 c14 1003 (by decide) (by decide) (by decide) rfl dL_law_40 ?_
    exact B_make hi hL h kk
  rw [if_neg c14] at h
  by_cases c15 : o = 15
  · rw [if_pos c15] at h
    refine G_tsIn (M := mLaw) (off := 1026) 15 c15 1066 (by decide) (by decide) (by decide) rfl dL_law_40 ?_
    exact B_oil hi hL h kk
  rw [if_neg c15] at h
  by_cases c16 : o = 16
  · rw [if_pos c16] at h
    refine G_tsIn (M := mLaw) (off := 1094) 16 c16 1134 (by decide) (by decide) (by decide) rfl dL_law_40 ?_
    exact B_carpet hi hL h kk
  rw [if_neg c16] at h
  by_cases c17 : o = 17
  · rw [if_pos c17] at h
    refine G_tsIn (M := mLaw) (off := 1162) 17 c17 1202 (by decide) (by decide) (by decide) rfl dL_law_40 ?_
    exact B_undo hi hL h kk
  rw [if_neg c17] at h
  by_cases c18 : o = 18
  · rw [if_pos c18] at h
    refine G_tsIn (M := mLaw) (off := 1175) 18 c18 1215 (by decide) (by decide) (by decide) rfl dL_law_40 ?_
    exact B_odds hi hL h kk
  rw [if_neg c18] at h
  by_cases c19 : o = 19
  · rw [if_pos c19] at h
    refine G_tsIn (M := mLaw) (off := 1255) 19 c19 1295 (by decide) (by decide) (by decide) rfl dL_law_40 ?_
    exact B_likeliest hi hL h kk
  rw [if_neg c19] at h
  by_cases c20 : o = 20
  · rw [if_pos c20] at h
    refine G_tsIn (M := mLaw) (off := 1323) 20 c20 1363 (by decide) (by decide) (by decide) rfl dL_law_40 ?_
    exact B_due hi hL h kk
  rw [if_neg c20] at h
  by_cases c21 : o = 21
  · rw [if_pos c21] at h
    refine G_tsIn (M := mLaw) (off := 1390) 21 c21 1430 (by decide) (by decide) (by decide) rfl dL_law_40 ?_
    exact B_quiet hi hL h kk
  rw [if_neg c21] at h
  by_cases c22 : o = 22
  · rw [if_pos c22] at h
    refine G_tsIn (M := mLaw) (off := 1470) 22 c22 1510 (by decide) (by decide) (by decide) rfl dL_law_40 ?_
    exact B_suspects hi hL h kk
  rw [if_neg c22] at h
  by_cases c23 : o = 23
  · rw [if_pos c23] at h
    refine G_tsIn (M := mLaw) (off := 1526) 23 c23 1566 (by decide) (by decide) (by decide) rfl dL_law_40 ?_
    exact B_ghost hi hL h kk
  rw [if_neg c23] at h
  by_cases c24 : o = 24
  · rw [if_pos c24] at h
    refine G_tsIn (M := mLaw) (off := 1582) 24 c24 1622 (by decide) (by decide) (by decide) rfl dL_law_40 ?_
    exact B_breach hi hL h kk
  rw [if_neg c24] at h
  by_cases c25 : o = 25
  · rw [if_pos c25] at h
    refine G_tsIn (M := mLaw) (off := 1649) 25 c25 1689 (by decide) (by decide) (by decide) rfl dL_law_40 ?_
    exact B_silence hi hL h kk
  rw [if_neg c25] at h
  by_cases c26 : o = 26
  · rw [if_pos c26] at h
    refine G_tsIn (M := mLaw) (off := 1756) 26 c26 1796 (by decide) (by decide) (by decide) rfl dL_law_40 ?_
    exact B_ears hi hL h kk
  rw [if_neg c26] at h
  by_cases c27 : o = 27
  · rw [if_pos c27] at h
    refine G_tsIn (M := mLaw) (off := 1824) 27 c27 1864 (by decide) (by decide) (by decide) rfl dL_law_40 ?_
    exact B_seat hi hL h kk
  rw [if_neg c27] at h
  by_cases c28 : o = 28
  · rw [if_pos c28] at h
    refine G_tsIn (M := mLaw) (off := 1880) 28 c28 1920 (by decide) (by decide) (by decide) rfl dL_law_40 ?_
    exact B_value hi hL h kk
  rw [if_neg c28] at h
  by_cases c29 : o = 29
  · rw [if_pos c29] at h
    refine G_tsIn (M := mLaw) (off := 1935) 29 c29 1975 (by decide) (by decide) (by decide) rfl dL_law_40 ?_
    exact B_sale hi hL h kk
  rw [if_neg c29] at h
  by_cases c30 : o = 30
  · rw [if_pos c30] at h
    refine G_tsIn (M := mLaw) (off := 1977) 30 c30 2017 (by decide) (by decide) (by decide) rfl dL_law_40 ?_
    exact B_seed hi hL h kk
  rw [if_neg c30] at h
  by_cases c31 : o = 31
  · rw [if_pos c31] at h
    refine G_tsIn (M := mLaw) (off := 2002) 31 c31 2042 (by decide) (by decide) (by decide) rfl dL_law_40 ?_
    exact B_image hi hL h kk
  rw [if_neg c31] at h
  by_cases c32 : o = 32
  · rw [if_pos c32] at h
    refine G_tsIn (M := mLaw) (off := 2013) 32 c32 2053 (by decide) (by decide) (by decide) rfl dL_law_40 ?_
    exact B_back hi hL h kk
  rw [if_neg c32] at h
  by_cases c33 : o = 33
  · rw [if_pos c33] at h
    refine G_tsIn (M := mLaw) (off := 2026) 33 c33 2066 (by decide) (by decide) (by decide) rfl dL_law_40 ?_
    exact B_count hi hL h kk
  rw [if_neg c33] at h
  refine G_tsOut (M := mLaw) 34 (by decide) (fun i hi => match i, hi with | 0, _ => toI c0 (by decide) | 1, _ => toI c1 (by decide) | 2, _ => toI c2 (by decide) | 3, _ => toI c3 (by decide) | 4, _ => toI c4 (by decide) | 5, _ => toI c5 (by decide) | 6, _ => toI c6 (by decide) | 7, _ => toI c7 (by decide) | 8, _ => toI c8 (by decide) | 9, _ => toI c9 (by decide) | 10, _ => toI c10 (by decide) | 11, _ => toI c11 (by decide) | 12, _ => toI c12 (by decide) | 13, _ => toI c13 (by decide) | 14, _ => toI c14 (by decide) | 15, _ => toI c15 (by decide) | 16, _ => toI c16 (by decide) | 17, _ => toI c17 (by decide) | 18, _ => toI c18 (by decide) | 19, _ => toI c19 (by decide) | 20, _ => toI c20 (by decide) | 21, _ => toI c21 (by decide) | 22, _ => toI c22 (by decide) | 23, _ => toI c23 (by decide) | 24, _ => toI c24 (by decide) | 25, _ => toI c25 (by decide) | 26, _ => toI c26 (by decide) | 27, _ => toI c27 (by decide) | 28, _ => toI c28 (by decide) | 29, _ => toI c29 (by decide) | 30, _ => toI c30 (by decide) | 31, _ => toI c31 (by decide) | 32, _ => toI c32 (by decide) | 33, _ => toI c33 (by decide) | (n + 34), hi => absurd hi (by omega)) 2091 (by decide) dL_law_40 ?_
  obtain ⟨rfl, rfl⟩ := h
  exact G_less (b' := b) (Nat.le_succ b) kk
theorem scr_end {Ln i : Nat} (h : Ln < i + 6) (h1 : i ≤ 4000) (h2 : Ln ≤ 4000) : nI Ln - 6 < nI i := by
  rw [Int32.lt_iff_toInt_lt, Int32.toInt_sub, nI_toInt (by omega), nI_toInt (by omega)]
  have e : (6 : Int32).toInt = 6 := by decide
  rw [e, Int.bmod_eq_of_le (by omega) (by omega)]
  omega
/-- the whole loop, given what holds between the two sides -/
theorem law_loop {g : Gx} {Ln : Nat} {xs : Nat → Int32} (hL : Ln ≤ 3072) (Inv : Nat → MI → ML → Prop) (hst : ∀ (c : Nat), c < 600 → ∀ (o a1 a2 a3 a4 a5 : Int32) (I : MI) (L : ML), Inv c I L → ∃ I' L', Step o a1 a2 a3 a4 a5 I L I' L' ∧ Inv (c + 1) I' L') : ∀ (n i c : Nat), c + n = 600 → Ln ≤ i + 6 * n → i ≤ Ln → ∀ (I : MI) (L : ML), Inv c I L → EG (PL g Ln xs) QL g 53 n mLaw 23 (lv5 (nI i)) [] (I, L) := by
  intro n
  induction n with
  | zero =>
    intro i c hc h1 h2 I L hI
    refine G_iload (M := mLaw) 25 rfl dL_law_23 4 rfl ?_
    refine G_aload_n (M := mLaw) 26 rfl dL_law_25 rfl 0 rfl ?_
    refine G_slen 27 rfl dL_law_26 ?_
    refine G_bipush (M := mLaw) (v := 6) 29 rfl dL_law_27 (by decide) ?_
    refine G_isub (M := mLaw) 30 rfl dL_law_29 ?_
    refine G_icmp_gt (M := mLaw) 2097 33 (by decide) rfl dL_law_30 (fun _ => ?_) (fun h => absurd (scr_end (by omega) (by omega) (by omega)) h)
    refine G_iconst (M := mLaw) (v := 1) 2098 rfl dL_law_2097 (by decide) ?_
    exact G_true rfl dL_law_2098
  | succ n ih =>
    intro i c hc h1 h2 I L hI
    refine G_iload (M := mLaw) 25 rfl dL_law_23 4 rfl ?_
    refine G_aload_n (M := mLaw) 26 rfl dL_law_25 rfl 0 rfl ?_
    refine G_slen 27 rfl dL_law_26 ?_
    refine G_bipush (M := mLaw) (v := 6) 29 rfl dL_law_27 (by decide) ?_
    refine G_isub (M := mLaw) 30 rfl dL_law_29 ?_
    refine G_icmp_gt (M := mLaw) 2097 33 (by decide) rfl dL_law_30 (fun _ => ?_) (fun h => ?_)
    · refine G_iconst (M := mLaw) (v := 1) 2098 rfl dL_law_2097 (by decide) ?_
      exact G_true rfl dL_law_2098
    · have hi : i + 6 ≤ Ln := Nat.le_of_not_lt fun h9 => h (scr_end (by omega) (by omega) (by omega))
      refine G_aload_n (M := mLaw) 34 rfl dL_law_33 rfl 0 rfl ?_
      refine G_iload (M := mLaw) 36 rfl dL_law_34 4 rfl ?_
      refine G_sld (by omega) hL 37 rfl dL_law_36 ?_
      refine G_bipush (M := mLaw) (v := 63) 39 rfl dL_law_37 (by decide) ?_
      refine G_iand (M := mLaw) 40 rfl dL_law_39 ?_
      obtain ⟨I', L', hs, hI'⟩ := hst c (by omega) (xs i &&& 63) (xs (i + 1)) (xs (i + 2)) (xs (i + 3)) (xs (i + 4)) (xs (i + 5)) I L hI
      refine law_body hi hL hs ?_
      refine G_iinc (M := mLaw) (j := 4) (v := nI (i + 6)) (lv' := [(4, .int (nI (i + 6))), (0, .ref 200067), (1, .ref 0), (2, .ref 149), (3, .ref 160)]) 2094 rfl dL_law_2091 rfl (nI_add i 6) (by decide) rfl ?_
      refine G_goto (M := mLaw) 23 (by decide) dL_law_2094 ?_
      exact G_sub [1, 2, 3, 4, 0] rfl (ih (i + 6) (c + 1) (by omega) (by omega) hi I' L' hI')
