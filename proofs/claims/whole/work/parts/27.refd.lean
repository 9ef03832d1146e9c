def f_X12_hour_218 (k185 : Int32 → MI → ML → Option (MI × ML)) (x1 : Int32) (y1 : Int32) (y2 : Int32) (I : MI) (L : ML) : Option (MI × ML) := Option.bind (stI I 150 2143 y1 y2) fun I1 => k185 (x1 + 1) I1 L
set_option maxRecDepth 100000 in
theorem S_X12_hour_218 {g : Gx} {k185 : Int32 → MI → ML → Option (MI × ML)} (hk185 : ∀ (x1z : Int32) (I : MI) (L : ML) (res : MI × ML), k185 x1z I L = some res → E g 13 0 mX12_hour 185 [(0, .ref 149), (1, .int x1z)] [] (I, L) (.inl none) (res.1, res.2)) (x1 : Int32) (y1 : Int32) (y2 : Int32) (I : MI) (L : ML) (res : MI × ML) (h : f_X12_hour_218 k185 x1 y1 y2 I L = some res) : E g 13 0 mX12_hour 218 [(0, .ref 149), (1, .int x1)] [.int y2, .int y1, .ref 150] (I, L) (.inl none) (res.1, res.2) := by
  unfold f_X12_hour_218 at h
  obtain ⟨I1, hI1, h⟩ := Option.bind_eq_some_iff.mp h
  refine E_stI 219 rfl dX12_hour_218 shc_150 hI1 ?_
  refine E_iinc (j := 1) (v := x1 + 1) (lv' := [(1, .int (x1 + 1)), (0, .ref 149)]) 222 rfl dX12_hour_219 rfl rfl (Nat.le_of_ble_eq_true rfl) rfl ?_
  refine E_goto 185 (by decide) dX12_hour_222 ?_
  refine E_sub (lv' := [(0, .ref 149), (1, .int (x1 + 1))]) [1, 0] rfl ?_
  exact hk185 (x1 + 1) I1 L _ h
def f_X12_hour_185 : Nat → Int32 → MI → ML → Option (MI × ML)
  | 0, _, _, _ => none
  | n + 1, x1, I, L => if 6 ≤ x1 then (Option.bind (ldI I 150 2143 14) fun v2 => Option.bind (stI I 150 2143 14 (if (v2 + 1) < 40 then (v2 + 1) else 40)) fun I3 => Option.bind (ldI I3 150 2143 7) fun v4 => Option.bind (stI I3 150 2143 7 (v4 + 1)) fun I5 => Option.bind (ldI I5 150 2143 7) fun v6 => if 24 ≤ v6 then (Option.bind (stI I5 150 2143 7 0) fun I8 => Option.bind (ldI I8 150 2143 6) fun v9 => Option.bind (stI I8 150 2143 6 (v9 + 1)) fun I10 => some (I10, L)) else (some (I5, L))) else (Option.bind (f_X12_heirs I L) fun v11 => if v11 ≤ x1 then (f_X12_hour_218 (f_X12_hour_185 n) x1 (205 + x1) ((-1)) I L) else (Option.bind (f_X12_ofHeir x1 0 I L) fun v13 => f_X12_hour_218 (f_X12_hour_185 n) x1 (205 + x1) v13 I L))
set_option maxRecDepth 100000 in
theorem S_X12_hour_185 {g : Gx} : ∀ (n : Nat) (x1 : Int32) (I : MI) (L : ML) (res : MI × ML), f_X12_hour_185 n x1 I L = some res → E g 13 0 mX12_hour 185 [(0, .ref 149), (1, .int x1)] [] (I, L) (.inl none) (res.1, res.2) := by
  intro n
  induction n with
  | zero =>
    intros
    rename_i h
    cases h
  | succ n ih =>
    intro x1 I L res h
    rw [f_X12_hour_185] at h
    refine E_iload_n 186 rfl dX12_hour_185 rfl 1 rfl ?_
    refine E_bipush (v := 6) 188 rfl dX12_hour_186 (by decide) ?_
    refine E_icmp_ge 225 191 (by decide) rfl dX12_hour_188 (fun c1 => ?_) (fun c1 => ?_)
    · rw [if_pos c1] at h
      refine E_aload_n 226 rfl dX12_hour_225 rfl 0 rfl ?_
      refine E_gR 150 229 rfl dX12_hour_226 shc_149 fl_X12_13 rfl (by decide) (by decide) ?_
      refine E_bipush (v := 14) 231 rfl dX12_hour_229 (by decide) ?_
      refine E_bipush (v := 40) 233 rfl dX12_hour_231 (by decide) ?_
      refine E_aload_n 234 rfl dX12_hour_233 rfl 0 rfl ?_
      refine E_gR 150 237 rfl dX12_hour_234 shc_149 fl_X12_13 rfl (by decide) (by decide) ?_
      refine E_bipush (v := 14) 239 rfl dX12_hour_237 (by decide) ?_
      obtain ⟨v2, hv2, h⟩ := Option.bind_eq_some_iff.mp h
      refine E_ldI 240 rfl dX12_hour_239 shc_150 hv2 ?_
      refine E_iconst (v := 1) 241 rfl dX12_hour_240 (by decide) ?_
      refine E_iadd 242 rfl dX12_hour_241 ?_
      refine E_min 245 rfl dX12_hour_242 jm_X12_255 (by decide) (Nat.le_of_ble_eq_true rfl) ?_
      obtain ⟨I3, hI3, h⟩ := Option.bind_eq_some_iff.mp h
      refine E_stI 246 rfl dX12_hour_245 shc_150 hI3 ?_
      refine E_aload_n 247 rfl dX12_hour_246 rfl 0 rfl ?_
      refine E_gR 150 250 rfl dX12_hour_247 shc_149 fl_X12_13 rfl (by decide) (by decide) ?_
      refine E_bipush (v := 7) 252 rfl dX12_hour_250 (by decide) ?_
      refine E_dup2 253 rfl dX12_hour_252 rfl rfl ?_
      obtain ⟨v4, hv4, h⟩ := Option.bind_eq_some_iff.mp h
      refine E_ldI 254 rfl dX12_hour_253 shc_150 hv4 ?_
      refine E_iconst (v := 1) 255 rfl dX12_hour_254 (by decide) ?_
      refine E_iadd 256 rfl dX12_hour_255 ?_
      obtain ⟨I5, hI5, h⟩ := Option.bind_eq_some_iff.mp h
      refine E_stI 257 rfl dX12_hour_256 shc_150 hI5 ?_
      refine E_aload_n 258 rfl dX12_hour_257 rfl 0 rfl ?_
      refine E_gR 150 261 rfl dX12_hour_258 shc_149 fl_X12_13 rfl (by decide) (by decide) ?_
      refine E_bipush (v := 7) 263 rfl dX12_hour_261 (by decide) ?_
      obtain ⟨v6, hv6, h⟩ := Option.bind_eq_some_iff.mp h
      refine E_ldI 264 rfl dX12_hour_263 shc_150 hv6 ?_
      refine E_bipush (v := 24) 266 rfl dX12_hour_264 (by decide) ?_
      refine E_icmp_ge 270 269 (by decide) rfl dX12_hour_266 (fun c7 => ?_) (fun c7 => ?_)
      · rw [if_pos c7] at h
        refine E_aload_n 271 rfl dX12_hour_270 rfl 0 rfl ?_
        refine E_gR 150 274 rfl dX12_hour_271 shc_149 fl_X12_13 rfl (by decide) (by decide) ?_
        refine E_bipush (v := 7) 276 rfl dX12_hour_274 (by decide) ?_
        refine E_iconst (v := 0) 277 rfl dX12_hour_276 (by decide) ?_
        obtain ⟨I8, hI8, h⟩ := Option.bind_eq_some_iff.mp h
        refine E_stI 278 rfl dX12_hour_277 shc_150 hI8 ?_
        refine E_aload_n 279 rfl dX12_hour_278 rfl 0 rfl ?_
        refine E_gR 150 282 rfl dX12_hour_279 shc_149 fl_X12_13 rfl (by decide) (by decide) ?_
        refine E_bipush (v := 6) 284 rfl dX12_hour_282 (by decide) ?_
        refine E_dup2 285 rfl dX12_hour_284 rfl rfl ?_
        obtain ⟨v9, hv9, h⟩ := Option.bind_eq_some_iff.mp h
        refine E_ldI 286 rfl dX12_hour_285 shc_150 hv9 ?_
        refine E_iconst (v := 1) 287 rfl dX12_hour_286 (by decide) ?_
        refine E_iadd 288 rfl dX12_hour_287 ?_
        obtain ⟨I10, hI10, h⟩ := Option.bind_eq_some_iff.mp h
        refine E_stI 289 rfl dX12_hour_288 shc_150 hI10 ?_
        cases h
        exact E_vret rfl dX12_hour_289
      · rw [if_neg c7] at h
        cases h
        exact E_vret rfl dX12_hour_269
    · rw [if_neg c1] at h
      refine E_aload_n 192 rfl dX12_hour_191 rfl 0 rfl ?_
      refine E_gR 150 195 rfl dX12_hour_192 shc_149 fl_X12_13 rfl (by decide) (by decide) ?_
      refine E_sipush (v := 205) 198 rfl dX12_hour_195 (by decide) ?_
      refine E_iload_n 199 rfl dX12_hour_198 rfl 1 rfl ?_
      refine E_iadd 200 rfl dX12_hour_199 ?_
      refine E_iload_n 201 rfl dX12_hour_200 rfl 1 rfl ?_
      refine E_aload_n 202 rfl dX12_hour_201 rfl 0 rfl ?_
      obtain ⟨v11, hv11, h⟩ := Option.bind_eq_some_iff.mp h
      refine E_cV1 (As := []) 205 rfl dX12_hour_202 shc_149 ck_X12_64 cv_X12_heirs rfl (by decide) (Nat.le_of_ble_eq_true rfl) (C_X12_heirs (g := g) hv11) rfl ?_
      refine E_icmp_ge 217 208 (by decide) rfl dX12_hour_205 (fun c12 => ?_) (fun c12 => ?_)
      · rw [if_pos c12] at h
        refine E_iconst (v := (-1)) 218 rfl dX12_hour_217 (by decide) ?_
        refine E_sub (lv' := [(0, .ref 149), (1, .int x1)]) [0, 1] rfl ?_
        exact S_X12_hour_218 ih x1 (205 + x1) ((-1)) I L _ h
      · rw [if_neg c12] at h
        refine E_aload_n 209 rfl dX12_hour_208 rfl 0 rfl ?_
        refine E_iload_n 210 rfl dX12_hour_209 rfl 1 rfl ?_
        refine E_iconst (v := 0) 211 rfl dX12_hour_210 (by decide) ?_
        obtain ⟨v13, hv13, h⟩ := Option.bind_eq_some_iff.mp h
        refine E_cV1 (As := [.int x1, .int 0]) 214 rfl dX12_hour_211 shc_149 ck_X12_266 cv_X12_ofHeir rfl (by decide) (Nat.le_of_ble_eq_true rfl) (C_X12_ofHeir (g := g) hv13) rfl ?_
        refine E_goto 218 (by decide) dX12_hour_214 ?_
        refine E_sub (lv' := [(0, .ref 149), (1, .int x1)]) [0, 1] rfl ?_
        exact S_X12_hour_218 ih x1 (205 + x1) v13 I L _ h
def f_X12_hour_148 : Nat → Int32 → MI → ML → Option (MI × ML)
  | 0, _, _, _ => none
  | n + 1, x1, I, L => if x1 < 6 then (f_X12_hour_185 FU 0 I L) else (Option.bind (ldI I 150 2143 ((205 + x1) - 6)) fun v2 => Option.bind (stI I 150 2143 (205 + x1) v2) fun I3 => f_X12_hour_148 n (x1 + (-1)) I3 L)
set_option maxRecDepth 100000 in
theorem S_X12_hour_148 {g : Gx} : ∀ (n : Nat) (x1 : Int32) (I : MI) (L : ML) (res : MI × ML), f_X12_hour_148 n x1 I L = some res → E g 13 0 mX12_hour 148 [(0, .ref 149), (1, .int x1)] [] (I, L) (.inl none) (res.1, res.2) := by
  intro n
  induction n with
  | zero =>
    intros
    rename_i h
    cases h
  | succ n ih =>
    intro x1 I L res h
    rw [f_X12_hour_148] at h
    refine E_iload_n 149 rfl dX12_hour_148 rfl 1 rfl ?_
    refine E_bipush (v := 6) 151 rfl dX12_hour_149 (by decide) ?_
    refine E_icmp_lt 183 154 (by decide) rfl dX12_hour_151 (fun c1 => ?_) (fun c1 => ?_)
    · rw [if_pos c1] at h
      refine E_iconst (v := 0) 184 rfl dX12_hour_183 (by decide) ?_
      refine E_istore_n (lv' := [(1, .int 0), (0, .ref 149)]) 185 rfl dX12_hour_184 rfl (Nat.le_of_ble_eq_true rfl) rfl ?_
      refine E_sub (lv' := [(0, .ref 149), (1, .int 0)]) [1, 0] rfl ?_
      exact S_X12_hour_185 FU 0 I L _ h
    · rw [if_neg c1] at h
      refine E_aload_n 155 rfl dX12_hour_154 rfl 0 rfl ?_
      refine E_gR 150 158 rfl dX12_hour_155 shc_149 fl_X12_13 rfl (by decide) (by decide) ?_
      refine E_sipush (v := 205) 161 rfl dX12_hour_158 (by decide) ?_
      refine E_iload_n 162 rfl dX12_hour_161 rfl 1 rfl ?_
      refine E_iadd 163 rfl dX12_hour_162 ?_
      refine E_aload_n 164 rfl dX12_hour_163 rfl 0 rfl ?_
      refine E_gR 150 167 rfl dX12_hour_164 shc_149 fl_X12_13 rfl (by decide) (by decide) ?_
      refine E_sipush (v := 205) 170 rfl dX12_hour_167 (by decide) ?_
      refine E_iload_n 171 rfl dX12_hour_170 rfl 1 rfl ?_
      refine E_iadd 172 rfl dX12_hour_171 ?_
      refine E_bipush (v := 6) 174 rfl dX12_hour_172 (by decide) ?_
      refine E_isub 175 rfl dX12_hour_174 ?_
      obtain ⟨v2, hv2, h⟩ := Option.bind_eq_some_iff.mp h
      refine E_ldI 176 rfl dX12_hour_175 shc_150 hv2 ?_
      obtain ⟨I3, hI3, h⟩ := Option.bind_eq_some_iff.mp h
      refine E_stI 177 rfl dX12_hour_176 shc_150 hI3 ?_
      refine E_iinc (j := 1) (v := x1 + (-1)) (lv' := [(1, .int (x1 + (-1))), (0, .ref 149)]) 180 rfl dX12_hour_177 rfl rfl (Nat.le_of_ble_eq_true rfl) rfl ?_
      refine E_goto 148 (by decide) dX12_hour_180 ?_
      refine E_sub (lv' := [(0, .ref 149), (1, .int (x1 + (-1)))]) [1, 0] rfl ?_
      exact ih (x1 + (-1)) I3 L _ h
def f_X12_hour_122 : Nat → Int32 → MI → ML → Option (MI × ML)
  | 0, _, _, _ => none
  | n + 1, x1, I, L => Option.bind (f_X12_noises I L) fun v1 => if v1 ≤ x1 then (f_X12_hour_148 FU 239 I L) else (Option.bind (f_X12_sets x1 9 0 I L) fun w3 => f_X12_hour_122 n (x1 + 1) w3.1 w3.2)
set_option maxRecDepth 100000 in
theorem S_X12_hour_122 {g : Gx} : ∀ (n : Nat) (x1 : Int32) (I : MI) (L : ML) (res : MI × ML), f_X12_hour_122 n x1 I L = some res → E g 13 0 mX12_hour 122 [(0, .ref 149), (1, .int x1)] [] (I, L) (.inl none) (res.1, res.2) := by
  intro n
  induction n with
  | zero =>
    intros
    rename_i h
    cases h
  | succ n ih =>
    intro x1 I L res h
    rw [f_X12_hour_122] at h
    refine E_iload_n 123 rfl dX12_hour_122 rfl 1 rfl ?_
    refine E_aload_n 124 rfl dX12_hour_123 rfl 0 rfl ?_
    obtain ⟨v1, hv1, h⟩ := Option.bind_eq_some_iff.mp h
    refine E_cV1 (As := []) 127 rfl dX12_hour_124 shc_149 ck_X12_67 cv_X12_noises rfl (by decide) (Nat.le_of_ble_eq_true rfl) (C_X12_noises (g := g) hv1) rfl ?_
    refine E_icmp_ge 144 130 (by decide) rfl dX12_hour_127 (fun c2 => ?_) (fun c2 => ?_)
    · rw [if_pos c2] at h
      refine E_sipush (v := 239) 147 rfl dX12_hour_144 (by decide) ?_
      refine E_istore_n (lv' := [(1, .int 239), (0, .ref 149)]) 148 rfl dX12_hour_147 rfl (Nat.le_of_ble_eq_true rfl) rfl ?_
      refine E_sub (lv' := [(0, .ref 149), (1, .int 239)]) [1, 0] rfl ?_
      exact S_X12_hour_148 FU 239 I L _ h
    · rw [if_neg c2] at h
      refine E_aload_n 131 rfl dX12_hour_130 rfl 0 rfl ?_
      refine E_iload_n 132 rfl dX12_hour_131 rfl 1 rfl ?_
      refine E_bipush (v := 9) 134 rfl dX12_hour_132 (by decide) ?_
      refine E_iconst (v := 0) 135 rfl dX12_hour_134 (by decide) ?_
      obtain ⟨w3, hw3, h⟩ := Option.bind_eq_some_iff.mp h
      refine E_cV0 (As := [.int x1, .int 9, .int 0]) 138 rfl dX12_hour_135 shc_149 ck_X12_143 cv_X12_sets rfl (by decide) (Nat.le_of_ble_eq_true rfl) (C_X12_sets (g := g) hw3) rfl ?_
      refine E_iinc (j := 1) (v := x1 + 1) (lv' := [(1, .int (x1 + 1)), (0, .ref 149)]) 141 rfl dX12_hour_138 rfl rfl (Nat.le_of_ble_eq_true rfl) rfl ?_
      refine E_goto 122 (by decide) dX12_hour_141 ?_
      refine E_sub (lv' := [(0, .ref 149), (1, .int (x1 + 1))]) [1, 0] rfl ?_
      exact ih (x1 + 1) w3.1 w3.2 _ h
def f_X12_hour_114 (k30 : Int32 → MI → ML → Option (MI × ML)) (x1 : Int32) (I : MI) (L : ML) : Option (MI × ML) := k30 (x1 + 1) I L
set_option maxRecDepth 100000 in
theorem S_X12_hour_114 {g : Gx} {k30 : Int32 → MI → ML → Option (MI × ML)} (hk30 : ∀ (x1z : Int32) (I : MI) (L : ML) (res : MI × ML), k30 x1z I L = some res → E g 13 0 mX12_hour 30 [(0, .ref 149), (1, .int x1z)] [] (I, L) (.inl none) (res.1, res.2)) (x1 : Int32) (I : MI) (L : ML) (res : MI × ML) (h : f_X12_hour_114 k30 x1 I L = some res) : E g 13 0 mX12_hour 114 [(0, .ref 149), (1, .int x1)] [] (I, L) (.inl none) (res.1, res.2) := by
  unfold f_X12_hour_114 at h
  refine E_iinc (j := 1) (v := x1 + 1) (lv' := [(1, .int (x1 + 1)), (0, .ref 149)]) 117 rfl dX12_hour_114 rfl rfl (Nat.le_of_ble_eq_true rfl) rfl ?_
  refine E_goto 30 (by decide) dX12_hour_117 ?_
  refine E_sub (lv' := [(0, .ref 149), (1, .int (x1 + 1))]) [1, 0] rfl ?_
  exact hk30 (x1 + 1) I L _ h
def f_X12_hour_62 (k30 : Int32 → MI → ML → Option (MI × ML)) (x1 : Int32) (I : MI) (L : ML) : Option (MI × ML) := Option.bind (ldI I 150 2143 6) fun v1 => Option.bind (ldI I 150 2143 7) fun v2 => Option.bind (f_X12_sets x1 7 ((24 * v1) + v2) I L) fun w3 => Option.bind (f_X12_of x1 8 w3.1 w3.2) fun v4 => Option.bind (f_X12_sets x1 8 (v4 + 1) w3.1 w3.2) fun w5 => Option.bind (ldI w5.1 150 2143 12) fun v6 => Option.bind (stI w5.1 150 2143 12 (v6 + 1)) fun I7 => f_X12_hour_114 k30 x1 I7 w5.2
set_option maxRecDepth 100000 in
theorem S_X12_hour_62 {g : Gx} {k30 : Int32 → MI → ML → Option (MI × ML)} (hk30 : ∀ (x1z : Int32) (I : MI) (L : ML) (res : MI × ML), k30 x1z I L = some res → E g 13 0 mX12_hour 30 [(0, .ref 149), (1, .int x1z)] [] (I, L) (.inl none) (res.1, res.2)) (x1 : Int32) (I : MI) (L : ML) (res : MI × ML) (h : f_X12_hour_62 k30 x1 I L = some res) : E g 13 0 mX12_hour 62 [(0, .ref 149), (1, .int x1)] [] (I, L) (.inl none) (res.1, res.2) := by
  unfold f_X12_hour_62 at h
  refine E_aload_n 63 rfl dX12_hour_62 rfl 0 rfl ?_
  refine E_iload_n 64 rfl dX12_hour_63 rfl 1 rfl ?_
  refine E_bipush (v := 7) 66 rfl dX12_hour_64 (by decide) ?_
  refine E_bipush (v := 24) 68 rfl dX12_hour_66 (by decide) ?_
  refine E_aload_n 69 rfl dX12_hour_68 rfl 0 rfl ?_
  refine E_gR 150 72 rfl dX12_hour_69 shc_149 fl_X12_13 rfl (by decide) (by decide) ?_
  refine E_bipush (v := 6) 74 rfl dX12_hour_72 (by decide) ?_
  obtain ⟨v1, hv1, h⟩ := Option.bind_eq_some_iff.mp h
  refine E_ldI 75 rfl dX12_hour_74 shc_150 hv1 ?_
  refine E_imul 76 rfl dX12_hour_75 ?_
  refine E_aload_n 77 rfl dX12_hour_76 rfl 0 rfl ?_
  refine E_gR 150 80 rfl dX12_hour_77 shc_149 fl_X12_13 rfl (by decide) (by decide) ?_
  refine E_bipush (v := 7) 82 rfl dX12_hour_80 (by decide) ?_
  obtain ⟨v2, hv2, h⟩ := Option.bind_eq_some_iff.mp h
  refine E_ldI 83 rfl dX12_hour_82 shc_150 hv2 ?_
  refine E_iadd 84 rfl dX12_hour_83 ?_
  obtain ⟨w3, hw3, h⟩ := Option.bind_eq_some_iff.mp h
  refine E_cV0 (As := [.int x1, .int 7, .int ((24 * v1) + v2)]) 87 rfl dX12_hour_84 shc_149 ck_X12_143 cv_X12_sets rfl (by decide) (Nat.le_of_ble_eq_true rfl) (C_X12_sets (g := g) hw3) rfl ?_
  refine E_aload_n 88 rfl dX12_hour_87 rfl 0 rfl ?_
  refine E_iload_n 89 rfl dX12_hour_88 rfl 1 rfl ?_
  refine E_bipush (v := 8) 91 rfl dX12_hour_89 (by decide) ?_
  refine E_aload_n 92 rfl dX12_hour_91 rfl 0 rfl ?_
  refine E_iload_n 93 rfl dX12_hour_92 rfl 1 rfl ?_
  refine E_bipush (v := 8) 95 rfl dX12_hour_93 (by decide) ?_
  obtain ⟨v4, hv4, h⟩ := Option.bind_eq_some_iff.mp h
  refine E_cV1 (As := [.int x1, .int 8]) 98 rfl dX12_hour_95 shc_149 ck_X12_260 cv_X12_of rfl (by decide) (Nat.le_of_ble_eq_true rfl) (C_X12_of (g := g) hv4) rfl ?_
  refine E_iconst (v := 1) 99 rfl dX12_hour_98 (by decide) ?_
  refine E_iadd 100 rfl dX12_hour_99 ?_
  obtain ⟨w5, hw5, h⟩ := Option.bind_eq_some_iff.mp h
  refine E_cV0 (As := [.int x1, .int 8, .int (v4 + 1)]) 103 rfl dX12_hour_100 shc_149 ck_X12_143 cv_X12_sets rfl (by decide) (Nat.le_of_ble_eq_true rfl) (C_X12_sets (g := g) hw5) rfl ?_
  refine E_aload_n 104 rfl dX12_hour_103 rfl 0 rfl ?_
  refine E_gR 150 107 rfl dX12_hour_104 shc_149 fl_X12_13 rfl (by decide) (by decide) ?_
  refine E_bipush (v := 12) 109 rfl dX12_hour_107 (by decide) ?_
  refine E_dup2 110 rfl dX12_hour_109 rfl rfl ?_
  obtain ⟨v6, hv6, h⟩ := Option.bind_eq_some_iff.mp h
  refine E_ldI 111 rfl dX12_hour_110 shc_150 hv6 ?_
  refine E_iconst (v := 1) 112 rfl dX12_hour_111 (by decide) ?_
  refine E_iadd 113 rfl dX12_hour_112 ?_
  obtain ⟨I7, hI7, h⟩ := Option.bind_eq_some_iff.mp h
  refine E_stI 114 rfl dX12_hour_113 shc_150 hI7 ?_
  refine E_sub (lv' := [(0, .ref 149), (1, .int x1)]) [0, 1] rfl ?_
  exact S_X12_hour_114 hk30 x1 I7 w5.2 _ h
def f_X12_hour_30 : Nat → Int32 → MI → ML → Option (MI × ML)
  | 0, _, _, _ => none
  | n + 1, x1, I, L => Option.bind (f_X12_noises I L) fun v1 => if v1 ≤ x1 then (f_X12_hour_122 FU 0 I L) else (Option.bind (f_X12_sounds x1 I L) fun w3 => if w3.1 = true then (Option.bind (f_X12_isHeard x1 w3.2.1 w3.2.2) fun v5 => if v5 = true then (Option.bind (f_X12_pays x1 w3.2.1 w3.2.2) fun w7 => f_X12_hour_62 (f_X12_hour_30 n) x1 w7.1 w7.2) else (f_X12_hour_62 (f_X12_hour_30 n) x1 w3.2.1 w3.2.2)) else (f_X12_hour_114 (f_X12_hour_30 n) x1 w3.2.1 w3.2.2))
set_option maxRecDepth 100000 in
theorem S_X12_hour_30 {g : Gx} : ∀ (n : Nat) (x1 : Int32) (I : MI) (L : ML) (res : MI × ML), f_X12_hour_30 n x1 I L = some res → E g 13 0 mX12_hour 30 [(0, .ref 149), (1, .int x1)] [] (I, L) (.inl none) (res.1, res.2) := by
  intro n
  induction n with
  | zero =>
    intros
    rename_i h
    cases h
  | succ n ih =>
    intro x1 I L res h
    rw [f_X12_hour_30] at h
    refine E_iload_n 31 rfl dX12_hour_30 rfl 1 rfl ?_
    refine E_aload_n 32 rfl dX12_hour_31 rfl 0 rfl ?_
    obtain ⟨v1, hv1, h⟩ := Option.bind_eq_some_iff.mp h
    refine E_cV1 (As := []) 35 rfl dX12_hour_32 shc_149 ck_X12_67 cv_X12_noises rfl (by decide) (Nat.le_of_ble_eq_true rfl) (C_X12_noises (g := g) hv1) rfl ?_
    refine E_icmp_ge 120 38 (by decide) rfl dX12_hour_35 (fun c2 => ?_) (fun c2 => ?_)
    · rw [if_pos c2] at h
      refine E_iconst (v := 0) 121 rfl dX12_hour_120 (by decide) ?_
      refine E_istore_n (lv' := [(1, .int 0), (0, .ref 149)]) 122 rfl dX12_hour_121 rfl (Nat.le_of_ble_eq_true rfl) rfl ?_
      refine E_sub (lv' := [(0, .ref 149), (1, .int 0)]) [1, 0] rfl ?_
      exact S_X12_hour_122 FU 0 I L _ h
    · rw [if_neg c2] at h
      refine E_aload_n 39 rfl dX12_hour_38 rfl 0 rfl ?_
      refine E_iload_n 40 rfl dX12_hour_39 rfl 1 rfl ?_
      obtain ⟨w3, hw3, h⟩ := Option.bind_eq_some_iff.mp h
      refine E_cV1 (As := [.int x1]) 43 rfl dX12_hour_40 shc_149 ck_X12_317 cv_X12_sounds rfl (by decide) (Nat.le_of_ble_eq_true rfl) (C_X12_sounds (g := g) hw3) rfl ?_
      refine E_if_neB 49 46 (by decide) rfl dX12_hour_43 (fun c4 => ?_) (fun c4 => ?_)
      · rw [if_pos c4] at h
        refine E_aload_n 50 rfl dX12_hour_49 rfl 0 rfl ?_
        refine E_iload_n 51 rfl dX12_hour_50 rfl 1 rfl ?_
        obtain ⟨v5, hv5, h⟩ := Option.bind_eq_some_iff.mp h
        refine E_cV1 (As := [.int x1]) 54 rfl dX12_hour_51 shc_149 ck_X12_320 cv_X12_isHeard rfl (by decide) (Nat.le_of_ble_eq_true rfl) (C_X12_isHeard (g := g) hv5) rfl ?_
        refine E_if_eqB 62 57 (by decide) rfl dX12_hour_54 (fun c6 => ?_) (fun c6 => ?_)
        · rw [if_neg (by rw [c6]; decide)] at h
          refine E_sub (lv' := [(0, .ref 149), (1, .int x1)]) [0, 1] rfl ?_
          exact S_X12_hour_62 ih x1 w3.2.1 w3.2.2 _ h
        · rw [if_pos c6] at h
          refine E_aload_n 58 rfl dX12_hour_57 rfl 0 rfl ?_
          refine E_iload_n 59 rfl dX12_hour_58 rfl 1 rfl ?_
          obtain ⟨w7, hw7, h⟩ := Option.bind_eq_some_iff.mp h
          refine E_cV0 (As := [.int x1]) 62 rfl dX12_hour_59 shc_149 ck_X12_323 cv_X12_pays rfl (by decide) (Nat.le_of_ble_eq_true rfl) (C_X12_pays (g := g) hw7) rfl ?_
          refine E_sub (lv' := [(0, .ref 149), (1, .int x1)]) [0, 1] rfl ?_
          exact S_X12_hour_62 ih x1 w7.1 w7.2 _ h
      · rw [if_neg (by rw [c4]; decide)] at h
        refine E_goto 114 (by decide) dX12_hour_46 ?_
        refine E_sub (lv' := [(0, .ref 149), (1, .int x1)]) [0, 1] rfl ?_
        exact S_X12_hour_114 ih x1 w3.2.1 w3.2.2 _ h
def f_X12_hour_27 (y1 : Int32) (y2 : Bool) (I : MI) (L : ML) : Option (MI × ML) := Option.bind (stI I 150 2143 y1 (bI y2)) fun I1 => f_X12_hour_30 FU 0 I1 L
set_option maxRecDepth 100000 in
theorem S_X12_hour_27 {g : Gx} (y1 : Int32) (y2 : Bool) (I : MI) (L : ML) (res : MI × ML) (h : f_X12_hour_27 y1 y2 I L = some res) : E g 13 0 mX12_hour 27 [(0, .ref 149)] [.int (bI y2), .int y1, .ref 150] (I, L) (.inl none) (res.1, res.2) := by
  unfold f_X12_hour_27 at h
  obtain ⟨I1, hI1, h⟩ := Option.bind_eq_some_iff.mp h
  refine E_stI 28 rfl dX12_hour_27 shc_150 hI1 ?_
  refine E_iconst (v := 0) 29 rfl dX12_hour_28 (by decide) ?_
  refine E_istore_n (lv' := [(1, .int 0), (0, .ref 149)]) 30 rfl dX12_hour_29 rfl (Nat.le_of_ble_eq_true rfl) rfl ?_
  refine E_sub (lv' := [(0, .ref 149), (1, .int 0)]) [1, 0] rfl ?_
  exact S_X12_hour_30 FU 0 I1 L _ h
def f_X12_hour (I : MI) (L : ML) : Option (MI × ML) := Option.bind (f_X12_draw 100 I L) fun w1 => Option.bind (ldI w1.2.1 150 2143 8) fun v2 => if v2 ≤ w1.1 then (f_X12_hour_27 9 false w1.2.1 w1.2.2) else (f_X12_hour_27 9 true w1.2.1 w1.2.2)
set_option maxRecDepth 100000 in
theorem S_X12_hour {g : Gx} (I : MI) (L : ML) (res : MI × ML) (h : f_X12_hour I L = some res) : E g 13 0 mX12_hour 0 [(0, .ref 149)] [] (I, L) (.inl none) (res.1, res.2) := by
  unfold f_X12_hour at h
  refine E_aload_n 1 rfl dX12_hour_0 rfl 0 rfl ?_
  refine E_gR 150 4 rfl dX12_hour_1 shc_149 fl_X12_13 rfl (by decide) (by decide) ?_
  refine E_bipush (v := 9) 6 rfl dX12_hour_4 (by decide) ?_
  refine E_aload_n 7 rfl dX12_hour_6 rfl 0 rfl ?_
  refine E_bipush (v := 100) 9 rfl dX12_hour_7 (by decide) ?_
  obtain ⟨w1, hw1, h⟩ := Option.bind_eq_some_iff.mp h
  refine E_cV1 (As := [.int 100]) 12 rfl dX12_hour_9 shc_149 ck_X12_313 cv_X12_draw rfl (by decide) (Nat.le_of_ble_eq_true rfl) (C_X12_draw (g := g) hw1) rfl ?_
  refine E_aload_n 13 rfl dX12_hour_12 rfl 0 rfl ?_
  refine E_gR 150 16 rfl dX12_hour_13 shc_149 fl_X12_13 rfl (by decide) (by decide) ?_
  refine E_bipush (v := 8) 18 rfl dX12_hour_16 (by decide) ?_
  obtain ⟨v2, hv2, h⟩ := Option.bind_eq_some_iff.mp h
  refine E_ldI 19 rfl dX12_hour_18 shc_150 hv2 ?_
  refine E_icmp_ge 26 22 (by decide) rfl dX12_hour_19 (fun c3 => ?_) (fun c3 => ?_)
  · rw [if_pos c3] at h
    refine E_iconst (v := 0) 27 rfl dX12_hour_26 (by decide) ?_
    refine E_sub (lv' := [(0, .ref 149)]) [0] rfl ?_
    exact S_X12_hour_27 9 false w1.2.1 w1.2.2 _ h
  · rw [if_neg c3] at h
    refine E_iconst (v := 1) 23 rfl dX12_hour_22 (by decide) ?_
    refine E_goto 27 (by decide) dX12_hour_23 ?_
    refine E_sub (lv' := [(0, .ref 149)]) [0] rfl ?_
    exact S_X12_hour_27 9 true w1.2.1 w1.2.2 _ h
theorem C_X12_hour {g : Gx} {I : MI} {L : ML} {res : MI × ML} (h : f_X12_hour I L = some res) : Ent g 13 0 mX12_hour [.ref 149] (I, L) (.inl none) (res.1, res.2) := Ent_of (by decide +kernel) (Nat.le_of_ble_eq_true rfl) (S_X12_hour I L _ h)
def f_X12_hours_45 : Nat → Int32 → Int32 → Int32 → MI → ML → Option (Int32 × MI × ML)
  | 0, _, _, _, _, _ => none
  | n + 1, x1, x2, x3, I, L => if x1 ≤ x3 then (Option.bind (pfI I 149 6 0) fun I2 => Option.bind (ldI I2 150 2143 12) fun v3 => some (v3 - x2, I2, L)) else (Option.bind (f_X12_hour I L) fun w4 => f_X12_hours_45 n x1 x2 (x3 + 1) w4.1 w4.2)
set_option maxRecDepth 100000 in
theorem S_X12_hours_45 {g : Gx} : ∀ (n : Nat) (x1 : Int32) (x2 : Int32) (x3 : Int32) (I : MI) (L : ML) (res : Int32 × MI × ML), f_X12_hours_45 n x1 x2 x3 I L = some res → E g 14 0 mX12_hours 45 [(0, .ref 149), (1, .int x1), (2, .int x2), (3, .int x3)] [] (I, L) (.inl (some (.int res.1))) (res.2.1, res.2.2) := by
  intro n
  induction n with
  | zero =>
    intros
    rename_i h
    cases h
  | succ n ih =>
    intro x1 x2 x3 I L res h
    rw [f_X12_hours_45] at h
    refine E_iload_n 46 rfl dX12_hours_45 rfl 3 rfl ?_
    refine E_iload_n 47 rfl dX12_hours_46 rfl 1 rfl ?_
    refine E_icmp_ge 60 50 (by decide) rfl dX12_hours_47 (fun c1 => ?_) (fun c1 => ?_)
    · rw [if_pos c1] at h
      refine E_aload_n 61 rfl dX12_hours_60 rfl 0 rfl ?_
      refine E_iconst (v := 0) 62 rfl dX12_hours_61 (by decide) ?_
      obtain ⟨I2, hI2, h⟩ := Option.bind_eq_some_iff.mp h
      refine E_pfI 65 rfl dX12_hours_62 shc_149 fl_X12_53 rfl hI2 ?_
      refine E_aload_n 66 rfl dX12_hours_65 rfl 0 rfl ?_
      refine E_gR 150 69 rfl dX12_hours_66 shc_149 fl_X12_13 rfl (by decide) (by decide) ?_
      refine E_bipush (v := 12) 71 rfl dX12_hours_69 (by decide) ?_
      obtain ⟨v3, hv3, h⟩ := Option.bind_eq_some_iff.mp h
      refine E_ldI 72 rfl dX12_hours_71 shc_150 hv3 ?_
      refine E_iload_n 73 rfl dX12_hours_72 rfl 2 rfl ?_
      refine E_isub 74 rfl dX12_hours_73 ?_
      cases h
      exact E_iret rfl dX12_hours_74
    · rw [if_neg c1] at h
      refine E_aload_n 51 rfl dX12_hours_50 rfl 0 rfl ?_
      obtain ⟨w4, hw4, h⟩ := Option.bind_eq_some_iff.mp h
      refine E_cV0 (As := []) 54 rfl dX12_hours_51 shc_149 ck_X12_327 cv_X12_hour rfl (by decide) (Nat.le_of_ble_eq_true rfl) (C_X12_hour (g := g) hw4) rfl ?_
      refine E_iinc (j := 3) (v := x3 + 1) (lv' := [(3, .int (x3 + 1)), (0, .ref 149), (1, .int x1), (2, .int x2)]) 57 rfl dX12_hours_54 rfl rfl (Nat.le_of_ble_eq_true rfl) rfl ?_
      refine E_goto 45 (by decide) dX12_hours_57 ?_
      refine E_sub (lv' := [(0, .ref 149), (1, .int x1), (2, .int x2), (3, .int (x3 + 1))]) [1, 2, 3, 0] rfl ?_
      exact ih x1 x2 (x3 + 1) w4.1 w4.2 _ h
def f_X12_hours_22 (x1 : Int32) (y1 : Bool) (I : MI) (L : ML) : Option (Int32 × MI × ML) := Option.bind (f_X12_throwsIf y1 1 I L) fun w1 => if w1.1 = true then (some (0, w1.2.1, w1.2.2)) else (Option.bind (f_X12_spreads w1.2.1 w1.2.2) fun w3 => Option.bind (ldI w3.1 150 2143 12) fun v4 => f_X12_hours_45 FU x1 v4 0 w3.1 w3.2)
set_option maxRecDepth 100000 in
theorem S_X12_hours_22 {g : Gx} (x1 : Int32) (y1 : Bool) (I : MI) (L : ML) (res : Int32 × MI × ML) (h : f_X12_hours_22 x1 y1 I L = some res) : E g 14 0 mX12_hours 22 [(0, .ref 149), (1, .int x1)] [.int (bI y1), .ref 149] (I, L) (.inl (some (.int res.1))) (res.2.1, res.2.2) := by
  unfold f_X12_hours_22 at h
  refine E_iconst (v := 1) 23 rfl dX12_hours_22 (by decide) ?_
  obtain ⟨w1, hw1, h⟩ := Option.bind_eq_some_iff.mp h
  refine E_cV1 (As := [.int (bI y1), .int 1]) 26 rfl dX12_hours_23 shc_149 ck_X12_245 cv_X12_throwsIf rfl (by decide) (Nat.le_of_ble_eq_true rfl) (C_X12_throwsIf (g := g) hw1) rfl ?_
  refine E_if_eqB 31 29 (by decide) rfl dX12_hours_26 (fun c2 => ?_) (fun c2 => ?_)
  · rw [if_neg (by rw [c2]; decide)] at h
    refine E_aload_n 32 rfl dX12_hours_31 rfl 0 rfl ?_
    obtain ⟨w3, hw3, h⟩ := Option.bind_eq_some_iff.mp h
    refine E_cV0 (As := []) 35 rfl dX12_hours_32 shc_149 ck_X12_298 cv_X12_spreads rfl (by decide) (Nat.le_of_ble_eq_true rfl) (C_X12_spreads (g := g) hw3) rfl ?_
    refine E_aload_n 36 rfl dX12_hours_35 rfl 0 rfl ?_
    refine E_gR 150 39 rfl dX12_hours_36 shc_149 fl_X12_13 rfl (by decide) (by decide) ?_
    refine E_bipush (v := 12) 41 rfl dX12_hours_39 (by decide) ?_
    obtain ⟨v4, hv4, h⟩ := Option.bind_eq_some_iff.mp h
    refine E_ldI 42 rfl dX12_hours_41 shc_150 hv4 ?_
    refine E_istore_n (lv' := [(2, .int v4), (0, .ref 149), (1, .int x1)]) 43 rfl dX12_hours_42 rfl (Nat.le_of_ble_eq_true rfl) rfl ?_
    refine E_iconst (v := 0) 44 rfl dX12_hours_43 (by decide) ?_
    refine E_istore_n (lv' := [(3, .int 0), (2, .int v4), (0, .ref 149), (1, .int x1)]) 45 rfl dX12_hours_44 rfl (Nat.le_of_ble_eq_true rfl) rfl ?_
    refine E_sub (lv' := [(0, .ref 149), (1, .int x1), (2, .int v4), (3, .int 0)]) [2, 3, 1, 0] rfl ?_
    exact S_X12_hours_45 FU x1 v4 0 w3.1 w3.2 _ h
  · rw [if_pos c2] at h
    refine E_iconst (v := 0) 30 rfl dX12_hours_29 (by decide) ?_
    cases h
    exact E_iret rfl dX12_hours_30
def f_X12_hours (x1 : Int32) (I : MI) (L : ML) : Option (Int32 × MI × ML) := Option.bind (pfI I 149 0 0) fun I1 => Option.bind (f_X12_in x1 1 240 I1 L) fun v2 => if v2 = true then (f_X12_hours_22 x1 false I1 L) else (f_X12_hours_22 x1 true I1 L)
set_option maxRecDepth 100000 in
theorem S_X12_hours {g : Gx} (x1 : Int32) (I : MI) (L : ML) (res : Int32 × MI × ML) (h : f_X12_hours x1 I L = some res) : E g 14 0 mX12_hours 0 [(0, .ref 149), (1, .int x1)] [] (I, L) (.inl (some (.int res.1))) (res.2.1, res.2.2) := by
  unfold f_X12_hours at h
  refine E_aload_n 1 rfl dX12_hours_0 rfl 0 rfl ?_
  refine E_iconst (v := 0) 2 rfl dX12_hours_1 (by decide) ?_
  obtain ⟨I1, hI1, h⟩ := Option.bind_eq_some_iff.mp h
  refine E_pfI 5 rfl dX12_hours_2 shc_149 fl_X12_3 rfl hI1 ?_
  refine E_aload_n 6 rfl dX12_hours_5 rfl 0 rfl ?_
  refine E_iload_n 7 rfl dX12_hours_6 rfl 1 rfl ?_
  refine E_iconst (v := 1) 8 rfl dX12_hours_7 (by decide) ?_
  refine E_sipush (v := 240) 11 rfl dX12_hours_8 (by decide) ?_
  obtain ⟨v2, hv2, h⟩ := Option.bind_eq_some_iff.mp h
  refine E_cS1 (As := [.int x1, .int 1, .int 240]) 14 rfl dX12_hours_11 ck_X12_60 ss_X12_in rfl (by decide) (Nat.le_of_ble_eq_true rfl) (C_X12_in (g := g) hv2) rfl ?_
  refine E_if_neB 21 17 (by decide) rfl dX12_hours_14 (fun c3 => ?_) (fun c3 => ?_)
  · rw [if_pos c3] at h
    refine E_iconst (v := 0) 22 rfl dX12_hours_21 (by decide) ?_
    refine E_sub (lv' := [(0, .ref 149), (1, .int x1)]) [0, 1] rfl ?_
    exact S_X12_hours_22 x1 false I1 L _ h
  · rw [if_neg (by rw [c3]; decide)] at h
    refine E_iconst (v := 1) 18 rfl dX12_hours_17 (by decide) ?_
    refine E_goto 22 (by decide) dX12_hours_18 ?_
    refine E_sub (lv' := [(0, .ref 149), (1, .int x1)]) [0, 1] rfl ?_
    exact S_X12_hours_22 x1 true I1 L _ h
theorem C_X12_hours {g : Gx} {x1 : Int32} {I : MI} {L : ML} {res : Int32 × MI × ML} (h : f_X12_hours x1 I L = some res) : Ent g 14 0 mX12_hours [.ref 149, .int x1] (I, L) (.inl (some (.int res.1))) (res.2.1, res.2.2) := Ent_of (by decide +kernel) (Nat.le_of_ble_eq_true rfl) (S_X12_hours x1 I L _ h)
def f_X12_go_27 (x1 : Int32) (x2 : Int32) (y1 : Bool) (I : MI) (L : ML) : Option (Int32 × MI × ML) := Option.bind (f_X12_throwsIf y1 1 I L) fun w1 => if w1.1 = true then (some (0, w1.2.1, w1.2.2)) else (Option.bind (f_X12_remembers w1.2.1 w1.2.2) fun w3 => Option.bind (f_X12_ofHeir x1 0 w3.1 w3.2) fun v4 => Option.bind (f_X12_setsHeir x1 0 x2 w3.1 w3.2) fun w5 => some (v4, w5.1, w5.2))
set_option maxRecDepth 100000 in
theorem S_X12_go_27 {g : Gx} (x1 : Int32) (x2 : Int32) (y1 : Bool) (I : MI) (L : ML) (res : Int32 × MI × ML) (h : f_X12_go_27 x1 x2 y1 I L = some res) : E g 3 0 mX12_go 27 [(0, .ref 149), (1, .int x1), (2, .int x2)] [.int (bI y1), .ref 149] (I, L) (.inl (some (.int res.1))) (res.2.1, res.2.2) := by
  unfold f_X12_go_27 at h
  refine E_iconst (v := 1) 28 rfl dX12_go_27 (by decide) ?_
  obtain ⟨w1, hw1, h⟩ := Option.bind_eq_some_iff.mp h
  refine E_cV1 (As := [.int (bI y1), .int 1]) 31 rfl dX12_go_28 shc_149 ck_X12_245 cv_X12_throwsIf rfl (by decide) (Nat.le_of_ble_eq_true rfl) (C_X12_throwsIf (g := g) hw1) rfl ?_
  refine E_if_eqB 36 34 (by decide) rfl dX12_go_31 (fun c2 => ?_) (fun c2 => ?_)
  · rw [if_neg (by rw [c2]; decide)] at h
    refine E_aload_n 37 rfl dX12_go_36 rfl 0 rfl ?_
    obtain ⟨w3, hw3, h⟩ := Option.bind_eq_some_iff.mp h
    refine E_cV0 (As := []) 40 rfl dX12_go_37 shc_149 ck_X12_329 cv_X12_remembers rfl (by decide) (Nat.le_of_ble_eq_true rfl) (C_X12_remembers (g := g) hw3) rfl ?_
    refine E_aload_n 41 rfl dX12_go_40 rfl 0 rfl ?_
    refine E_iload_n 42 rfl dX12_go_41 rfl 1 rfl ?_
    refine E_iconst (v := 0) 43 rfl dX12_go_42 (by decide) ?_
    obtain ⟨v4, hv4, h⟩ := Option.bind_eq_some_iff.mp h
    refine E_cV1 (As := [.int x1, .int 0]) 46 rfl dX12_go_43 shc_149 ck_X12_266 cv_X12_ofHeir rfl (by decide) (Nat.le_of_ble_eq_true rfl) (C_X12_ofHeir (g := g) hv4) rfl ?_
    refine E_istore_n (lv' := [(3, .int v4), (0, .ref 149), (1, .int x1), (2, .int x2)]) 47 rfl dX12_go_46 rfl (Nat.le_of_ble_eq_true rfl) rfl ?_
    refine E_aload_n 48 rfl dX12_go_47 rfl 1 rfl ?_
    refine E_iload_n 49 rfl dX12_go_48 rfl 2 rfl ?_
    refine E_iconst (v := 0) 50 rfl dX12_go_49 (by decide) ?_
    refine E_iload_n 51 rfl dX12_go_50 rfl 3 rfl ?_
    obtain ⟨w5, hw5, h⟩ := Option.bind_eq_some_iff.mp h
    refine E_cV0 (As := [.int x1, .int 0, .int x2]) 54 rfl dX12_go_51 shc_149 ck_X12_122 cv_X12_setsHeir rfl (by decide) (Nat.le_of_ble_eq_true rfl) (C_X12_setsHeir (g := g) hw5) rfl ?_
    refine E_iload_n 55 rfl dX12_go_54 rfl 0 rfl ?_
    cases h
    exact E_iret rfl dX12_go_55
  · rw [if_pos c2] at h
    refine E_iconst (v := 0) 35 rfl dX12_go_34 (by decide) ?_
    cases h
    exact E_iret rfl dX12_go_35
def f_X12_go_22 (x1 : Int32) (x2 : Int32) (I : MI) (L : ML) : Option (Int32 × MI × ML) := f_X12_go_27 x1 x2 true I L
set_option maxRecDepth 100000 in
theorem S_X12_go_22 {g : Gx} (x1 : Int32) (x2 : Int32) (I : MI) (L : ML) (res : Int32 × MI × ML) (h : f_X12_go_22 x1 x2 I L = some res) : E g 3 0 mX12_go 22 [(0, .ref 149), (1, .int x1), (2, .int x2)] [.ref 149] (I, L) (.inl (some (.int res.1))) (res.2.1, res.2.2) := by
  unfold f_X12_go_22 at h
  refine E_iconst (v := 1) 23 rfl dX12_go_22 (by decide) ?_
  refine E_goto 27 (by decide) dX12_go_23 ?_
  refine E_sub (lv' := [(0, .ref 149), (1, .int x1), (2, .int x2)]) [0, 1, 2] rfl ?_
  exact S_X12_go_27 x1 x2 true I L _ h
def f_X12_go (x1 : Int32) (x2 : Int32) (I : MI) (L : ML) : Option (Int32 × MI × ML) := Option.bind (pfI I 149 0 0) fun I1 => Option.bind (f_X12_noHeir x1 I1 L) fun v2 => if v2 = true then (f_X12_go_22 x1 x2 I1 L) else (Option.bind (f_X12_noRoom x2 I1 L) fun v4 => if v4 = true then (f_X12_go_22 x1 x2 I1 L) else (f_X12_go_27 x1 x2 false I1 L))
set_option maxRecDepth 100000 in
theorem S_X12_go {g : Gx} (x1 : Int32) (x2 : Int32) (I : MI) (L : ML) (res : Int32 × MI × ML) (h : f_X12_go x1 x2 I L = some res) : E g 3 0 mX12_go 0 [(0, .ref 149), (1, .int x1), (2, .int x2)] [] (I, L) (.inl (some (.int res.1))) (res.2.1, res.2.2) := by
  unfold f_X12_go at h
  refine E_aload_n 1 rfl dX12_go_0 rfl 0 rfl ?_
  refine E_iconst (v := 0) 2 rfl dX12_go_1 (by decide) ?_
  obtain ⟨I1, hI1, h⟩ := Option.bind_eq_some_iff.mp h
  refine E_pfI 5 rfl dX12_go_2 shc_149 fl_X12_3 rfl hI1 ?_
  refine E_aload_n 6 rfl dX12_go_5 rfl 0 rfl ?_
  refine E_aload_n 7 rfl dX12_go_6 rfl 0 rfl ?_
  refine E_iload_n 8 rfl dX12_go_7 rfl 1 rfl ?_
  obtain ⟨v2, hv2, h⟩ := Option.bind_eq_some_iff.mp h
  refine E_cV1 (As := [.int x1]) 11 rfl dX12_go_8 shc_149 ck_X12_301 cv_X12_noHeir rfl (by decide) (Nat.le_of_ble_eq_true rfl) (C_X12_noHeir (g := g) hv2) rfl ?_
  refine E_if_neB 22 14 (by decide) rfl dX12_go_11 (fun c3 => ?_) (fun c3 => ?_)
  · rw [if_pos c3] at h
    refine E_sub (lv' := [(0, .ref 149), (1, .int x1), (2, .int x2)]) [0, 1, 2] rfl ?_
    exact S_X12_go_22 x1 x2 I1 L _ h
  · rw [if_neg (by rw [c3]; decide)] at h
    refine E_aload_n 15 rfl dX12_go_14 rfl 0 rfl ?_
    refine E_iload_n 16 rfl dX12_go_15 rfl 2 rfl ?_
    obtain ⟨v4, hv4, h⟩ := Option.bind_eq_some_iff.mp h
    refine E_cV1 (As := [.int x2]) 19 rfl dX12_go_16 shc_149 ck_X12_292 cv_X12_noRoom rfl (by decide) (Nat.le_of_ble_eq_true rfl) (C_X12_noRoom (g := g) hv4) rfl ?_
    refine E_if_eqB 26 22 (by decide) rfl dX12_go_19 (fun c5 => ?_) (fun c5 => ?_)
    · rw [if_neg (by rw [c5]; decide)] at h
      refine E_iconst (v := 0) 27 rfl dX12_go_26 (by decide) ?_
      refine E_sub (lv' := [(0, .ref 149), (1, .int x1), (2, .int x2)]) [0, 1, 2] rfl ?_
      exact S_X12_go_27 x1 x2 false I1 L _ h
    · rw [if_pos c5] at h
      refine E_sub (lv' := [(0, .ref 149), (1, .int x1), (2, .int x2)]) [0, 1, 2] rfl ?_
      exact S_X12_go_22 x1 x2 I1 L _ h
theorem C_X12_go {g : Gx} {x1 : Int32} {x2 : Int32} {I : MI} {L : ML} {res : Int32 × MI × ML} (h : f_X12_go x1 x2 I L = some res) : Ent g 3 0 mX12_go [.ref 149, .int x1, .int x2] (I, L) (.inl (some (.int res.1))) (res.2.1, res.2.2) := Ent_of (by decide +kernel) (Nat.le_of_ble_eq_true rfl) (S_X12_go x1 x2 I L _ h)
def f_X12_make_62 (x1 : Int32) (y0 : Bool) (I : MI) (L : ML) : Option (Bool × MI × ML) := Option.bind (f_X12_sets x1 9 1 I L) fun w1 => some (y0, w1.1, w1.2)
set_option maxRecDepth 100000 in
theorem S_X12_make_62 {g : Gx} (x1 : Int32) (y0 : Bool) (I : MI) (L : ML) (res : Bool × MI × ML) (h : f_X12_make_62 x1 y0 I L = some res) : E g 3 0 mX12_make 62 [(0, .ref 149), (1, .int x1)] [.int (bI y0)] (I, L) (.inl (some (.int (bI res.1)))) (res.2.1, res.2.2) := by
  unfold f_X12_make_62 at h
  refine E_istore_n (lv' := [(2, .int (bI y0)), (0, .ref 149), (1, .int x1)]) 63 rfl dX12_make_62 rfl (Nat.le_of_ble_eq_true rfl) rfl ?_
  refine E_aload_n 64 rfl dX12_make_63 rfl 1 rfl ?_
  refine E_iload_n 65 rfl dX12_make_64 rfl 2 rfl ?_
  refine E_bipush (v := 9) 67 rfl dX12_make_65 (by decide) ?_
  refine E_iconst (v := 1) 68 rfl dX12_make_67 (by decide) ?_
  obtain ⟨w1, hw1, h⟩ := Option.bind_eq_some_iff.mp h
  refine E_cV0 (As := [.int x1, .int 9, .int 1]) 71 rfl dX12_make_68 shc_149 ck_X12_143 cv_X12_sets rfl (by decide) (Nat.le_of_ble_eq_true rfl) (C_X12_sets (g := g) hw1) rfl ?_
  refine E_iload_n 72 rfl dX12_make_71 rfl 0 rfl ?_
  cases h
  exact E_zret (x := y0) rfl dX12_make_72
def f_X12_make_41 (I : MI) (L : ML) : Option (Bool × MI × ML) := some (false, I, L)
set_option maxRecDepth 100000 in
theorem S_X12_make_41 {g : Gx} (I : MI) (L : ML) (res : Bool × MI × ML) (h : f_X12_make_41 I L = some res) : E g 3 0 mX12_make 41 [] [] (I, L) (.inl (some (.int (bI res.1)))) (res.2.1, res.2.2) := by
  unfold f_X12_make_41 at h
  refine E_iconst (v := 0) 42 rfl dX12_make_41 (by decide) ?_
  cases h
  exact E_zret (x := false) rfl dX12_make_42
def f_X12_make_34 (x1 : Int32) (y1 : Bool) (I : MI) (L : ML) : Option (Bool × MI × ML) := Option.bind (f_X12_throwsIf y1 2 I L) fun w1 => if w1.1 = true then (f_X12_make_41 w1.2.1 w1.2.2) else (Option.bind (f_X12_remembers w1.2.1 w1.2.2) fun w3 => Option.bind (f_X12_of x1 9 w3.1 w3.2) fun v4 => if v4 = 0 then (f_X12_make_62 x1 true w3.1 w3.2) else (f_X12_make_62 x1 false w3.1 w3.2))
set_option maxRecDepth 100000 in
theorem S_X12_make_34 {g : Gx} (x1 : Int32) (y1 : Bool) (I : MI) (L : ML) (res : Bool × MI × ML) (h : f_X12_make_34 x1 y1 I L = some res) : E g 3 0 mX12_make 34 [(0, .ref 149), (1, .int x1)] [.int (bI y1), .ref 149] (I, L) (.inl (some (.int (bI res.1)))) (res.2.1, res.2.2) := by
  unfold f_X12_make_34 at h
  refine E_iconst (v := 2) 35 rfl dX12_make_34 (by decide) ?_
  obtain ⟨w1, hw1, h⟩ := Option.bind_eq_some_iff.mp h
  refine E_cV1 (As := [.int (bI y1), .int 2]) 38 rfl dX12_make_35 shc_149 ck_X12_245 cv_X12_throwsIf rfl (by decide) (Nat.le_of_ble_eq_true rfl) (C_X12_throwsIf (g := g) hw1) rfl ?_
  refine E_if_eqB 43 41 (by decide) rfl dX12_make_38 (fun c2 => ?_) (fun c2 => ?_)
  · rw [if_neg (by rw [c2]; decide)] at h
    refine E_aload_n 44 rfl dX12_make_43 rfl 0 rfl ?_
    obtain ⟨w3, hw3, h⟩ := Option.bind_eq_some_iff.mp h
    refine E_cV0 (As := []) 47 rfl dX12_make_44 shc_149 ck_X12_329 cv_X12_remembers rfl (by decide) (Nat.le_of_ble_eq_true rfl) (C_X12_remembers (g := g) hw3) rfl ?_
    refine E_aload_n 48 rfl dX12_make_47 rfl 0 rfl ?_
    refine E_iload_n 49 rfl dX12_make_48 rfl 1 rfl ?_
    refine E_bipush (v := 9) 51 rfl dX12_make_49 (by decide) ?_
    obtain ⟨v4, hv4, h⟩ := Option.bind_eq_some_iff.mp h
    refine E_cV1 (As := [.int x1, .int 9]) 54 rfl dX12_make_51 shc_149 ck_X12_260 cv_X12_of rfl (by decide) (Nat.le_of_ble_eq_true rfl) (C_X12_of (g := g) hv4) rfl ?_
    refine E_if_ne 61 57 (by decide) rfl dX12_make_54 (fun c5 => ?_) (fun c5 => ?_)
    · rw [if_neg c5] at h
      refine E_iconst (v := 0) 62 rfl dX12_make_61 (by decide) ?_
      refine E_sub (lv' := [(0, .ref 149), (1, .int x1)]) [0, 1] rfl ?_
      exact S_X12_make_62 x1 false w3.1 w3.2 _ h
    · rw [if_pos c5] at h
      refine E_iconst (v := 1) 58 rfl dX12_make_57 (by decide) ?_
      refine E_goto 62 (by decide) dX12_make_58 ?_
      refine E_sub (lv' := [(0, .ref 149), (1, .int x1)]) [0, 1] rfl ?_
      exact S_X12_make_62 x1 true w3.1 w3.2 _ h
  · rw [if_pos c2] at h
    refine E_sub (lv' := []) [] rfl ?_
    exact S_X12_make_41 w1.2.1 w1.2.2 _ h
def f_X12_make (x1 : Int32) (I : MI) (L : ML) : Option (Bool × MI × ML) := Option.bind (pfI I 149 0 0) fun I1 => Option.bind (f_X12_noNoise x1 I1 L) fun v2 => Option.bind (f_X12_throwsIf v2 1 I1 L) fun w3 => if w3.1 = true then (f_X12_make_41 w3.2.1 w3.2.2) else (Option.bind (f_X12_of x1 0 w3.2.1 w3.2.2) fun v5 => if v5 = 3 then (f_X12_make_34 x1 false w3.2.1 w3.2.2) else (f_X12_make_34 x1 true w3.2.1 w3.2.2))
set_option maxRecDepth 100000 in
theorem S_X12_make {g : Gx} (x1 : Int32) (I : MI) (L : ML) (res : Bool × MI × ML) (h : f_X12_make x1 I L = some res) : E g 3 0 mX12_make 0 [(0, .ref 149), (1, .int x1)] [] (I, L) (.inl (some (.int (bI res.1)))) (res.2.1, res.2.2) := by
  unfold f_X12_make at h
  refine E_aload_n 1 rfl dX12_make_0 rfl 0 rfl ?_
  refine E_iconst (v := 0) 2 rfl dX12_make_1 (by decide) ?_
  obtain ⟨I1, hI1, h⟩ := Option.bind_eq_some_iff.mp h
  refine E_pfI 5 rfl dX12_make_2 shc_149 fl_X12_3 rfl hI1 ?_
  refine E_aload_n 6 rfl dX12_make_5 rfl 0 rfl ?_
  refine E_aload_n 7 rfl dX12_make_6 rfl 0 rfl ?_
  refine E_iload_n 8 rfl dX12_make_7 rfl 1 rfl ?_
  obtain ⟨v2, hv2, h⟩ := Option.bind_eq_some_iff.mp h
  refine E_cV1 (As := [.int x1]) 11 rfl dX12_make_8 shc_149 ck_X12_304 cv_X12_noNoise rfl (by decide) (Nat.le_of_ble_eq_true rfl) (C_X12_noNoise (g := g) hv2) rfl ?_
  refine E_iconst (v := 1) 12 rfl dX12_make_11 (by decide) ?_
  obtain ⟨w3, hw3, h⟩ := Option.bind_eq_some_iff.mp h
  refine E_cV1 (As := [.int (bI v2), .int 1]) 15 rfl dX12_make_12 shc_149 ck_X12_245 cv_X12_throwsIf rfl (by decide) (Nat.le_of_ble_eq_true rfl) (C_X12_throwsIf (g := g) hw3) rfl ?_
  refine E_if_neB 41 18 (by decide) rfl dX12_make_15 (fun c4 => ?_) (fun c4 => ?_)
  · rw [if_pos c4] at h
    refine E_sub (lv' := []) [] rfl ?_
    exact S_X12_make_41 w3.2.1 w3.2.2 _ h
  · rw [if_neg (by rw [c4]; decide)] at h
    refine E_aload_n 19 rfl dX12_make_18 rfl 0 rfl ?_
    refine E_aload_n 20 rfl dX12_make_19 rfl 0 rfl ?_
    refine E_iload_n 21 rfl dX12_make_20 rfl 1 rfl ?_
    refine E_iconst (v := 0) 22 rfl dX12_make_21 (by decide) ?_
    obtain ⟨v5, hv5, h⟩ := Option.bind_eq_some_iff.mp h
    refine E_cV1 (As := [.int x1, .int 0]) 25 rfl dX12_make_22 shc_149 ck_X12_260 cv_X12_of rfl (by decide) (Nat.le_of_ble_eq_true rfl) (C_X12_of (g := g) hv5) rfl ?_
    refine E_iconst (v := 3) 26 rfl dX12_make_25 (by decide) ?_
    refine E_icmp_eq 33 29 (by decide) rfl dX12_make_26 (fun c6 => ?_) (fun c6 => ?_)
    · rw [if_pos c6] at h
      refine E_iconst (v := 0) 34 rfl dX12_make_33 (by decide) ?_
      refine E_sub (lv' := [(0, .ref 149), (1, .int x1)]) [0, 1] rfl ?_
      exact S_X12_make_34 x1 false w3.2.1 w3.2.2 _ h
    · rw [if_neg c6] at h
      refine E_iconst (v := 1) 30 rfl dX12_make_29 (by decide) ?_
      refine E_goto 34 (by decide) dX12_make_30 ?_
      refine E_sub (lv' := [(0, .ref 149), (1, .int x1)]) [0, 1] rfl ?_
      exact S_X12_make_34 x1 true w3.2.1 w3.2.2 _ h
theorem C_X12_make {g : Gx} {x1 : Int32} {I : MI} {L : ML} {res : Bool × MI × ML} (h : f_X12_make x1 I L = some res) : Ent g 3 0 mX12_make [.ref 149, .int x1] (I, L) (.inl (some (.int (bI res.1)))) (res.2.1, res.2.2) := Ent_of (by decide +kernel) (Nat.le_of_ble_eq_true rfl) (S_X12_make x1 I L _ h)
def f_X12_oil_41 (I : MI) (L : ML) : Option (Int32 × MI × ML) := some (0, I, L)
set_option maxRecDepth 100000 in
theorem S_X12_oil_41 {g : Gx} (I : MI) (L : ML) (res : Int32 × MI × ML) (h : f_X12_oil_41 I L = some res) : E g 5 0 mX12_oil 41 [] [] (I, L) (.inl (some (.int res.1))) (res.2.1, res.2.2) := by
  unfold f_X12_oil_41 at h
  refine E_iconst (v := 0) 42 rfl dX12_oil_41 (by decide) ?_
  cases h
  exact E_iret rfl dX12_oil_42
def f_X12_oil_34 (x1 : Int32) (x2 : Int32) (y1 : Bool) (I : MI) (L : ML) : Option (Int32 × MI × ML) := Option.bind (f_X12_throwsIf y1 2 I L) fun w1 => if w1.1 = true then (f_X12_oil_41 w1.2.1 w1.2.2) else (Option.bind (f_X12_remembers w1.2.1 w1.2.2) fun w3 => Option.bind (f_X12_of x1 5 w3.1 w3.2) fun v4 => Option.bind (f_X12_sets x1 5 (if (v4 + x2) < 99 then (v4 + x2) else 99) w3.1 w3.2) fun w5 => Option.bind (f_X12_of x1 5 w5.1 w5.2) fun v6 => some (v6, w5.1, w5.2))
set_option maxRecDepth 100000 in
theorem S_X12_oil_34 {g : Gx} (x1 : Int32) (x2 : Int32) (y1 : Bool) (I : MI) (L : ML) (res : Int32 × MI × ML) (h : f_X12_oil_34 x1 x2 y1 I L = some res) : E g 5 0 mX12_oil 34 [(0, .ref 149), (1, .int x1), (2, .int x2)] [.int (bI y1), .ref 149] (I, L) (.inl (some (.int res.1))) (res.2.1, res.2.2) := by
  unfold f_X12_oil_34 at h
  refine E_iconst (v := 2) 35 rfl dX12_oil_34 (by decide) ?_
  obtain ⟨w1, hw1, h⟩ := Option.bind_eq_some_iff.mp h
  refine E_cV1 (As := [.int (bI y1), .int 2]) 38 rfl dX12_oil_35 shc_149 ck_X12_245 cv_X12_throwsIf rfl (by decide) (Nat.le_of_ble_eq_true rfl) (C_X12_throwsIf (g := g) hw1) rfl ?_
  refine E_if_eqB 43 41 (by decide) rfl dX12_oil_38 (fun c2 => ?_) (fun c2 => ?_)
  · rw [if_neg (by rw [c2]; decide)] at h
    refine E_aload_n 44 rfl dX12_oil_43 rfl 0 rfl ?_
    obtain ⟨w3, hw3, h⟩ := Option.bind_eq_some_iff.mp h
    refine E_cV0 (As := []) 47 rfl dX12_oil_44 shc_149 ck_X12_329 cv_X12_remembers rfl (by decide) (Nat.le_of_ble_eq_true rfl) (C_X12_remembers (g := g) hw3) rfl ?_
    refine E_aload_n 48 rfl dX12_oil_47 rfl 0 rfl ?_
    refine E_iload_n 49 rfl dX12_oil_48 rfl 1 rfl ?_
    refine E_iconst (v := 5) 50 rfl dX12_oil_49 (by decide) ?_
    refine E_bipush (v := 99) 52 rfl dX12_oil_50 (by decide) ?_
    refine E_aload_n 53 rfl dX12_oil_52 rfl 0 rfl ?_
    refine E_iload_n 54 rfl dX12_oil_53 rfl 1 rfl ?_
    refine E_iconst (v := 5) 55 rfl dX12_oil_54 (by decide) ?_
    obtain ⟨v4, hv4, h⟩ := Option.bind_eq_some_iff.mp h
    refine E_cV1 (As := [.int x1, .int 5]) 58 rfl dX12_oil_55 shc_149 ck_X12_260 cv_X12_of rfl (by decide) (Nat.le_of_ble_eq_true rfl) (C_X12_of (g := g) hv4) rfl ?_
    refine E_iload_n 59 rfl dX12_oil_58 rfl 2 rfl ?_
    refine E_iadd 60 rfl dX12_oil_59 ?_
    refine E_min 63 rfl dX12_oil_60 jm_X12_255 (by decide) (Nat.le_of_ble_eq_true rfl) ?_
    obtain ⟨w5, hw5, h⟩ := Option.bind_eq_some_iff.mp h
    refine E_cV0 (As := [.int x1, .int 5, .int (if (v4 + x2) < 99 then (v4 + x2) else 99)]) 66 rfl dX12_oil_63 shc_149 ck_X12_143 cv_X12_sets rfl (by decide) (Nat.le_of_ble_eq_true rfl) (C_X12_sets (g := g) hw5) rfl ?_
    refine E_aload_n 67 rfl dX12_oil_66 rfl 0 rfl ?_
    refine E_iload_n 68 rfl dX12_oil_67 rfl 1 rfl ?_
    refine E_iconst (v := 5) 69 rfl dX12_oil_68 (by decide) ?_
    obtain ⟨v6, hv6, h⟩ := Option.bind_eq_some_iff.mp h
    refine E_cV1 (As := [.int x1, .int 5]) 72 rfl dX12_oil_69 shc_149 ck_X12_260 cv_X12_of rfl (by decide) (Nat.le_of_ble_eq_true rfl) (C_X12_of (g := g) hv6) rfl ?_
    cases h
    exact E_iret rfl dX12_oil_72
  · rw [if_pos c2] at h
    refine E_sub (lv' := []) [] rfl ?_
    exact S_X12_oil_41 w1.2.1 w1.2.2 _ h
def f_X12_oil (x1 : Int32) (x2 : Int32) (I : MI) (L : ML) : Option (Int32 × MI × ML) := Option.bind (pfI I 149 0 0) fun I1 => Option.bind (f_X12_noNoise x1 I1 L) fun v2 => Option.bind (f_X12_throwsIf v2 1 I1 L) fun w3 => if w3.1 = true then (f_X12_oil_41 w3.2.1 w3.2.2) else (Option.bind (f_X12_in x2 1 99 w3.2.1 w3.2.2) fun v5 => if v5 = true then (f_X12_oil_34 x1 x2 false w3.2.1 w3.2.2) else (f_X12_oil_34 x1 x2 true w3.2.1 w3.2.2))
set_option maxRecDepth 100000 in
theorem S_X12_oil {g : Gx} (x1 : Int32) (x2 : Int32) (I : MI) (L : ML) (res : Int32 × MI × ML) (h : f_X12_oil x1 x2 I L = some res) : E g 5 0 mX12_oil 0 [(0, .ref 149), (1, .int x1), (2, .int x2)] [] (I, L) (.inl (some (.int res.1))) (res.2.1, res.2.2) := by
  unfold f_X12_oil at h
  refine E_aload_n 1 rfl dX12_oil_0 rfl 0 rfl ?_
  refine E_iconst (v := 0) 2 rfl dX12_oil_1 (by decide) ?_
  obtain ⟨I1, hI1, h⟩ := Option.bind_eq_some_iff.mp h
  refine E_pfI 5 rfl dX12_oil_2 shc_149 fl_X12_3 rfl hI1 ?_
  refine E_aload_n 6 rfl dX12_oil_5 rfl 0 rfl ?_
  refine E_aload_n 7 rfl dX12_oil_6 rfl 0 rfl ?_
  refine E_iload_n 8 rfl dX12_oil_7 rfl 1 rfl ?_
  obtain ⟨v2, hv2, h⟩ := Option.bind_eq_some_iff.mp h
  refine E_cV1 (As := [.int x1]) 11 rfl dX12_oil_8 shc_149 ck_X12_304 cv_X12_noNoise rfl (by decide) (Nat.le_of_ble_eq_true rfl) (C_X12_noNoise (g := g) hv2) rfl ?_
  refine E_iconst (v := 1) 12 rfl dX12_oil_11 (by decide) ?_
  obtain ⟨w3, hw3, h⟩ := Option.bind_eq_some_iff.mp h
  refine E_cV1 (As := [.int (bI v2), .int 1]) 15 rfl dX12_oil_12 shc_149 ck_X12_245 cv_X12_throwsIf rfl (by decide) (Nat.le_of_ble_eq_true rfl) (C_X12_throwsIf (g := g) hw3) rfl ?_
  refine E_if_neB 41 18 (by decide) rfl dX12_oil_15 (fun c4 => ?_) (fun c4 => ?_)
  · rw [if_pos c4] at h
    refine E_sub (lv' := []) [] rfl ?_
    exact S_X12_oil_41 w3.2.1 w3.2.2 _ h
  · rw [if_neg (by rw [c4]; decide)] at h
    refine E_aload_n 19 rfl dX12_oil_18 rfl 0 rfl ?_
    refine E_iload_n 20 rfl dX12_oil_19 rfl 2 rfl ?_
    refine E_iconst (v := 1) 21 rfl dX12_oil_20 (by decide) ?_
    refine E_bipush (v := 99) 23 rfl dX12_oil_21 (by decide) ?_
    obtain ⟨v5, hv5, h⟩ := Option.bind_eq_some_iff.mp h
    refine E_cS1 (As := [.int x2, .int 1, .int 99]) 26 rfl dX12_oil_23 ck_X12_60 ss_X12_in rfl (by decide) (Nat.le_of_ble_eq_true rfl) (C_X12_in (g := g) hv5) rfl ?_
    refine E_if_neB 33 29 (by decide) rfl dX12_oil_26 (fun c6 => ?_) (fun c6 => ?_)
    · rw [if_pos c6] at h
      refine E_iconst (v := 0) 34 rfl dX12_oil_33 (by decide) ?_
      refine E_sub (lv' := [(0, .ref 149), (1, .int x1), (2, .int x2)]) [0, 1, 2] rfl ?_
      exact S_X12_oil_34 x1 x2 false w3.2.1 w3.2.2 _ h
    · rw [if_neg (by rw [c6]; decide)] at h
      refine E_iconst (v := 1) 30 rfl dX12_oil_29 (by decide) ?_
      refine E_goto 34 (by decide) dX12_oil_30 ?_
      refine E_sub (lv' := [(0, .ref 149), (1, .int x1), (2, .int x2)]) [0, 1, 2] rfl ?_
      exact S_X12_oil_34 x1 x2 true w3.2.1 w3.2.2 _ h
theorem C_X12_oil {g : Gx} {x1 : Int32} {x2 : Int32} {I : MI} {L : ML} {res : Int32 × MI × ML} (h : f_X12_oil x1 x2 I L = some res) : Ent g 5 0 mX12_oil [.ref 149, .int x1, .int x2] (I, L) (.inl (some (.int res.1))) (res.2.1, res.2.2) := Ent_of (by decide +kernel) (Nat.le_of_ble_eq_true rfl) (S_X12_oil x1 x2 I L _ h)
def f_X12_carpet_41 (I : MI) (L : ML) : Option (Int32 × MI × ML) := some (0, I, L)
set_option maxRecDepth 100000 in
theorem S_X12_carpet_41 {g : Gx} (I : MI) (L : ML) (res : Int32 × MI × ML) (h : f_X12_carpet_41 I L = some res) : E g 3 0 mX12_carpet 41 [] [] (I, L) (.inl (some (.int res.1))) (res.2.1, res.2.2) := by
  unfold f_X12_carpet_41 at h
  refine E_iconst (v := 0) 42 rfl dX12_carpet_41 (by decide) ?_
  cases h
  exact E_iret rfl dX12_carpet_42
def f_X12_carpet_34 (x1 : Int32) (x2 : Int32) (y1 : Bool) (I : MI) (L : ML) : Option (Int32 × MI × ML) := Option.bind (f_X12_throwsIf y1 2 I L) fun w1 => if w1.1 = true then (f_X12_carpet_41 w1.2.1 w1.2.2) else (Option.bind (f_X12_remembers w1.2.1 w1.2.2) fun w3 => Option.bind (ldI w3.1 150 2143 (15 + x1)) fun v4 => Option.bind (stI w3.1 150 2143 (15 + x1) x2) fun I5 => some (v4, I5, w3.2))
set_option maxRecDepth 100000 in
theorem S_X12_carpet_34 {g : Gx} (x1 : Int32) (x2 : Int32) (y1 : Bool) (I : MI) (L : ML) (res : Int32 × MI × ML) (h : f_X12_carpet_34 x1 x2 y1 I L = some res) : E g 3 0 mX12_carpet 34 [(0, .ref 149), (1, .int x1), (2, .int x2)] [.int (bI y1), .ref 149] (I, L) (.inl (some (.int res.1))) (res.2.1, res.2.2) := by
  unfold f_X12_carpet_34 at h
  refine E_iconst (v := 2) 35 rfl dX12_carpet_34 (by decide) ?_
  obtain ⟨w1, hw1, h⟩ := Option.bind_eq_some_iff.mp h
  refine E_cV1 (As := [.int (bI y1), .int 2]) 38 rfl dX12_carpet_35 shc_149 ck_X12_245 cv_X12_throwsIf rfl (by decide) (Nat.le_of_ble_eq_true rfl) (C_X12_throwsIf (g := g) hw1) rfl ?_
  refine E_if_eqB 43 41 (by decide) rfl dX12_carpet_38 (fun c2 => ?_) (fun c2 => ?_)
  · rw [if_neg (by rw [c2]; decide)] at h
    refine E_aload_n 44 rfl dX12_carpet_43 rfl 0 rfl ?_
    obtain ⟨w3, hw3, h⟩ := Option.bind_eq_some_iff.mp h
    refine E_cV0 (As := []) 47 rfl dX12_carpet_44 shc_149 ck_X12_329 cv_X12_remembers rfl (by decide) (Nat.le_of_ble_eq_true rfl) (C_X12_remembers (g := g) hw3) rfl ?_
    refine E_aload_n 48 rfl dX12_carpet_47 rfl 0 rfl ?_
    refine E_gR 150 51 rfl dX12_carpet_48 shc_149 fl_X12_13 rfl (by decide) (by decide) ?_
    refine E_bipush (v := 15) 53 rfl dX12_carpet_51 (by decide) ?_
    refine E_iload_n 54 rfl dX12_carpet_53 rfl 1 rfl ?_
    refine E_iadd 55 rfl dX12_carpet_54 ?_
    obtain ⟨v4, hv4, h⟩ := Option.bind_eq_some_iff.mp h
    refine E_ldI 56 rfl dX12_carpet_55 shc_150 hv4 ?_
    refine E_istore_n (lv' := [(3, .int v4), (0, .ref 149), (1, .int x1), (2, .int x2)]) 57 rfl dX12_carpet_56 rfl (Nat.le_of_ble_eq_true rfl) rfl ?_
    refine E_aload_n 58 rfl dX12_carpet_57 rfl 1 rfl ?_
    refine E_gR 150 61 rfl dX12_carpet_58 shc_149 fl_X12_13 rfl (by decide) (by decide) ?_
    refine E_bipush (v := 15) 63 rfl dX12_carpet_61 (by decide) ?_
    refine E_iload_n 64 rfl dX12_carpet_63 rfl 2 rfl ?_
    refine E_iadd 65 rfl dX12_carpet_64 ?_
    refine E_iload_n 66 rfl dX12_carpet_65 rfl 3 rfl ?_
    obtain ⟨I5, hI5, h⟩ := Option.bind_eq_some_iff.mp h
    refine E_stI 67 rfl dX12_carpet_66 shc_150 hI5 ?_
    refine E_iload_n 68 rfl dX12_carpet_67 rfl 0 rfl ?_
    cases h
    exact E_iret rfl dX12_carpet_68
  · rw [if_pos c2] at h
    refine E_sub (lv' := []) [] rfl ?_
    exact S_X12_carpet_41 w1.2.1 w1.2.2 _ h
def f_X12_carpet (x1 : Int32) (x2 : Int32) (I : MI) (L : ML) : Option (Int32 × MI × ML) := Option.bind (pfI I 149 0 0) fun I1 => Option.bind (f_X12_noRoom x1 I1 L) fun v2 => Option.bind (f_X12_throwsIf v2 1 I1 L) fun w3 => if w3.1 = true then (f_X12_carpet_41 w3.2.1 w3.2.2) else (Option.bind (f_X12_in x2 0 20 w3.2.1 w3.2.2) fun v5 => if v5 = true then (f_X12_carpet_34 x1 x2 false w3.2.1 w3.2.2) else (f_X12_carpet_34 x1 x2 true w3.2.1 w3.2.2))
set_option maxRecDepth 100000 in
theorem S_X12_carpet {g : Gx} (x1 : Int32) (x2 : Int32) (I : MI) (L : ML) (res : Int32 × MI × ML) (h : f_X12_carpet x1 x2 I L = some res) : E g 3 0 mX12_carpet 0 [(0, .ref 149), (1, .int x1), (2, .int x2)] [] (I, L) (.inl (some (.int res.1))) (res.2.1, res.2.2) := by
  unfold f_X12_carpet at h
  refine E_aload_n 1 rfl dX12_carpet_0 rfl 0 rfl ?_
  refine E_iconst (v := 0) 2 rfl dX12_carpet_1 (by decide) ?_
  obtain ⟨I1, hI1, h⟩ := Option.bind_eq_some_iff.mp h
  refine E_pfI 5 rfl dX12_carpet_2 shc_149 fl_X12_3 rfl hI1 ?_
  refine E_aload_n 6 rfl dX12_carpet_5 rfl 0 rfl ?_
  refine E_aload_n 7 rfl dX12_carpet_6 rfl 0 rfl ?_
  refine E_iload_n 8 rfl dX12_carpet_7 rfl 1 rfl ?_
  obtain ⟨v2, hv2, h⟩ := Option.bind_eq_some_iff.mp h
  refine E_cV1 (As := [.int x1]) 11 rfl dX12_carpet_8 shc_149 ck_X12_292 cv_X12_noRoom rfl (by decide) (Nat.le_of_ble_eq_true rfl) (C_X12_noRoom (g := g) hv2) rfl ?_
  refine E_iconst (v := 1) 12 rfl dX12_carpet_11 (by decide) ?_
  obtain ⟨w3, hw3, h⟩ := Option.bind_eq_some_iff.mp h
  refine E_cV1 (As := [.int (bI v2), .int 1]) 15 rfl dX12_carpet_12 shc_149 ck_X12_245 cv_X12_throwsIf rfl (by decide) (Nat.le_of_ble_eq_true rfl) (C_X12_throwsIf (g := g) hw3) rfl ?_
  refine E_if_neB 41 18 (by decide) rfl dX12_carpet_15 (fun c4 => ?_) (fun c4 => ?_)
  · rw [if_pos c4] at h
    refine E_sub (lv' := []) [] rfl ?_
    exact S_X12_carpet_41 w3.2.1 w3.2.2 _ h
  · rw [if_neg (by rw [c4]; decide)] at h
    refine E_aload_n 19 rfl dX12_carpet_18 rfl 0 rfl ?_
    refine E_iload_n 20 rfl dX12_carpet_19 rfl 2 rfl ?_
    refine E_iconst (v := 0) 21 rfl dX12_carpet_20 (by decide) ?_
    refine E_bipush (v := 20) 23 rfl dX12_carpet_21 (by decide) ?_
    obtain ⟨v5, hv5, h⟩ := Option.bind_eq_some_iff.mp h
    refine E_cS1 (As := [.int x2, .int 0, .int 20]) 26 rfl dX12_carpet_23 ck_X12_60 ss_X12_in rfl (by decide) (Nat.le_of_ble_eq_true rfl) (C_X12_in (g := g) hv5) rfl ?_
    refine E_if_neB 33 29 (by decide) rfl dX12_carpet_26 (fun c6 => ?_) (fun c6 => ?_)
    · rw [if_pos c6] at h
      refine E_iconst (v := 0) 34 rfl dX12_carpet_33 (by decide) ?_
      refine E_sub (lv' := [(0, .ref 149), (1, .int x1), (2, .int x2)]) [0, 1, 2] rfl ?_
      exact S_X12_carpet_34 x1 x2 false w3.2.1 w3.2.2 _ h
    · rw [if_neg (by rw [c6]; decide)] at h
      refine E_iconst (v := 1) 30 rfl dX12_carpet_29 (by decide) ?_
      refine E_goto 34 (by decide) dX12_carpet_30 ?_
      refine E_sub (lv' := [(0, .ref 149), (1, .int x1), (2, .int x2)]) [0, 1, 2] rfl ?_
      exact S_X12_carpet_34 x1 x2 true w3.2.1 w3.2.2 _ h
theorem C_X12_carpet {g : Gx} {x1 : Int32} {x2 : Int32} {I : MI} {L : ML} {res : Int32 × MI × ML} (h : f_X12_carpet x1 x2 I L = some res) : Ent g 3 0 mX12_carpet [.ref 149, .int x1, .int x2] (I, L) (.inl (some (.int res.1))) (res.2.1, res.2.2) := Ent_of (by decide +kernel) (Nat.le_of_ble_eq_true rfl) (S_X12_carpet x1 x2 I L _ h)
def f_X12_weightOf (x1 : Int32) (x2 : Int32) (x3 : Int32) (I : MI) (L : ML) : Option (Int32) := Option.bind (f_X12_of x1 2 I L) fun v1 => Option.bind (f_X12_atOf x1 x2 I L) fun v2 => some ((if 0 < (10 - (if 0 ≤ (v1 - x3) then (v1 - x3) else 0 - (v1 - x3))) then (10 - (if 0 ≤ (v1 - x3) then (v1 - x3) else 0 - (v1 - x3))) else 0) * v2)
set_option maxRecDepth 100000 in
theorem S_X12_weightOf {g : Gx} (x1 : Int32) (x2 : Int32) (x3 : Int32) (I : MI) (L : ML) (res : Int32) (h : f_X12_weightOf x1 x2 x3 I L = some res) : E g 6 0 mX12_weightOf 0 [(0, .ref 149), (1, .int x1), (2, .int x2), (3, .int x3)] [] (I, L) (.inl (some (.int res))) (I, L) := by
  unfold f_X12_weightOf at h
  refine E_iconst (v := 0) 1 rfl dX12_weightOf_0 (by decide) ?_
  refine E_bipush (v := 10) 3 rfl dX12_weightOf_1 (by decide) ?_
  refine E_aload_n 4 rfl dX12_weightOf_3 rfl 0 rfl ?_
  refine E_iload_n 5 rfl dX12_weightOf_4 rfl 1 rfl ?_
  refine E_iconst (v := 2) 6 rfl dX12_weightOf_5 (by decide) ?_
  obtain ⟨v1, hv1, h⟩ := Option.bind_eq_some_iff.mp h
  refine E_cV1 (As := [.int x1, .int 2]) 9 rfl dX12_weightOf_6 shc_149 ck_X12_260 cv_X12_of rfl (by decide) (Nat.le_of_ble_eq_true rfl) (C_X12_of (g := g) hv1) rfl ?_
  refine E_iload_n 10 rfl dX12_weightOf_9 rfl 3 rfl ?_
  refine E_isub 11 rfl dX12_weightOf_10 ?_
  refine E_abs 14 rfl dX12_weightOf_11 jm_X12_332 (by decide) (Nat.le_of_ble_eq_true rfl) ?_
  refine E_isub 15 rfl dX12_weightOf_14 ?_
  refine E_max 18 rfl dX12_weightOf_15 jm_X12_263 (by decide) (Nat.le_of_ble_eq_true rfl) ?_
  refine E_aload_n 19 rfl dX12_weightOf_18 rfl 0 rfl ?_
  refine E_iload_n 20 rfl dX12_weightOf_19 rfl 1 rfl ?_
  refine E_iload_n 21 rfl dX12_weightOf_20 rfl 2 rfl ?_
  obtain ⟨v2, hv2, h⟩ := Option.bind_eq_some_iff.mp h
  refine E_cV1 (As := [.int x1, .int x2]) 24 rfl dX12_weightOf_21 shc_149 ck_X12_269 cv_X12_atOf rfl (by decide) (Nat.le_of_ble_eq_true rfl) (C_X12_atOf (g := g) hv2) rfl ?_
  refine E_imul 25 rfl dX12_weightOf_24 ?_
  cases h
  exact E_iret rfl dX12_weightOf_25
theorem C_X12_weightOf {g : Gx} {x1 : Int32} {x2 : Int32} {x3 : Int32} {I : MI} {L : ML} {res : Int32} (h : f_X12_weightOf x1 x2 x3 I L = some res) : Ent g 6 0 mX12_weightOf [.ref 149, .int x1, .int x2, .int x3] (I, L) (.inl (some (.int res))) (I, L) := Ent_of (by decide +kernel) (Nat.le_of_ble_eq_true rfl) (S_X12_weightOf x1 x2 x3 I L _ h)
def f_X12_odds_120 (y0 : Int32) (I : MI) (L : ML) : Option (Int32 × MI × ML) := some (y0, I, L)
set_option maxRecDepth 100000 in
theorem S_X12_odds_120 {g : Gx} (y0 : Int32) (I : MI) (L : ML) (res : Int32 × MI × ML) (h : f_X12_odds_120 y0 I L = some res) : E g 7 0 mX12_odds 120 [] [.int y0] (I, L) (.inl (some (.int res.1))) (res.2.1, res.2.2) := by
  unfold f_X12_odds_120 at h
  cases h
  exact E_iret rfl dX12_odds_120
def f_X12_odds_69 : Nat → Int32 → Int32 → Int32 → Int32 → Int32 → MI → ML → Option (Int32 × MI × ML)
  | 0, _, _, _, _, _, _, _ => none
  | n + 1, x1, x2, x3, x4, x5, I, L => Option.bind (f_X12_noises I L) fun v1 => if v1 ≤ x5 then (if x4 = 0 then (f_X12_odds_120 0 I L) else (Option.bind (f_X12_weightOf x1 x2 x3 I L) fun v4 => Option.bind (dvI (10000 * v4) x4) fun v5 => f_X12_odds_120 v5 I L)) else (Option.bind (f_X12_weightOf x5 x2 x3 I L) fun v6 => f_X12_odds_69 n x1 x2 x3 (x4 + v6) (x5 + 1) I L)
set_option maxRecDepth 100000 in
theorem S_X12_odds_69 {g : Gx} : ∀ (n : Nat) (x1 : Int32) (x2 : Int32) (x3 : Int32) (x4 : Int32) (x5 : Int32) (I : MI) (L : ML) (res : Int32 × MI × ML), f_X12_odds_69 n x1 x2 x3 x4 x5 I L = some res → E g 7 0 mX12_odds 69 [(0, .ref 149), (1, .int x1), (2, .int x2), (3, .int x3), (4, .int x4), (5, .int x5)] [] (I, L) (.inl (some (.int res.1))) (res.2.1, res.2.2) := by
  intro n
  induction n with
  | zero =>
    intros
    rename_i h
    cases h
  | succ n ih =>
    intro x1 x2 x3 x4 x5 I L res h
    rw [f_X12_odds_69] at h
    refine E_iload 71 rfl dX12_odds_69 5 rfl ?_
    refine E_aload_n 72 rfl dX12_odds_71 rfl 0 rfl ?_
    obtain ⟨v1, hv1, h⟩ := Option.bind_eq_some_iff.mp h
    refine E_cV1 (As := []) 75 rfl dX12_odds_72 shc_149 ck_X12_67 cv_X12_noises rfl (by decide) (Nat.le_of_ble_eq_true rfl) (C_X12_noises (g := g) hv1) rfl ?_
    refine E_icmp_ge 97 78 (by decide) rfl dX12_odds_75 (fun c2 => ?_) (fun c2 => ?_)
    · rw [if_pos c2] at h
      refine E_iload 99 rfl dX12_odds_97 4 rfl ?_
      refine E_if_ne 106 102 (by decide) rfl dX12_odds_99 (fun c3 => ?_) (fun c3 => ?_)
      · rw [if_neg c3] at h
        refine E_sipush (v := 10000) 109 rfl dX12_odds_106 (by decide) ?_
        refine E_aload_n 110 rfl dX12_odds_109 rfl 0 rfl ?_
        refine E_iload_n 111 rfl dX12_odds_110 rfl 1 rfl ?_
        refine E_iload_n 112 rfl dX12_odds_111 rfl 2 rfl ?_
        refine E_iload_n 113 rfl dX12_odds_112 rfl 3 rfl ?_
        obtain ⟨v4, hv4, h⟩ := Option.bind_eq_some_iff.mp h
        refine E_cV1 (As := [.int x1, .int x2, .int x3]) 116 rfl dX12_odds_113 shc_149 ck_X12_335 cv_X12_weightOf rfl (by decide) (Nat.le_of_ble_eq_true rfl) (C_X12_weightOf (g := g) hv4) rfl ?_
        refine E_imul 117 rfl dX12_odds_116 ?_
        refine E_iload 119 rfl dX12_odds_117 4 rfl ?_
        obtain ⟨v5, hv5, h⟩ := Option.bind_eq_some_iff.mp h
        refine E_dvI 120 rfl dX12_odds_119 hv5 ?_
        refine E_sub (lv' := []) [] rfl ?_
        exact S_X12_odds_120 v5 I L _ h
      · rw [if_pos c3] at h
        refine E_iconst (v := 0) 103 rfl dX12_odds_102 (by decide) ?_
        refine E_goto 120 (by decide) dX12_odds_103 ?_
        refine E_sub (lv' := []) [] rfl ?_
        exact S_X12_odds_120 0 I L _ h
    · rw [if_neg c2] at h
      refine E_iload 80 rfl dX12_odds_78 4 rfl ?_
      refine E_aload_n 81 rfl dX12_odds_80 rfl 0 rfl ?_
      refine E_iload 83 rfl dX12_odds_81 5 rfl ?_
      refine E_iload_n 84 rfl dX12_odds_83 rfl 2 rfl ?_
      refine E_iload_n 85 rfl dX12_odds_84 rfl 3 rfl ?_
      obtain ⟨v6, hv6, h⟩ := Option.bind_eq_some_iff.mp h
      refine E_cV1 (As := [.int x5, .int x2, .int x3]) 88 rfl dX12_odds_85 shc_149 ck_X12_335 cv_X12_weightOf rfl (by decide) (Nat.le_of_ble_eq_true rfl) (C_X12_weightOf (g := g) hv6) rfl ?_
      refine E_iadd 89 rfl dX12_odds_88 ?_
      refine E_istore (lv' := [(4, .int (x4 + v6)), (0, .ref 149), (1, .int x1), (2, .int x2), (3, .int x3), (5, .int x5)]) 91 rfl dX12_odds_89 (Nat.le_of_ble_eq_true rfl) rfl ?_
      refine E_iinc (j := 5) (v := x5 + 1) (lv' := [(5, .int (x5 + 1)), (4, .int (x4 + v6)), (0, .ref 149), (1, .int x1), (2, .int x2), (3, .int x3)]) 94 rfl dX12_odds_91 rfl rfl (Nat.le_of_ble_eq_true rfl) rfl ?_
      refine E_goto 69 (by decide) dX12_odds_94 ?_
      refine E_sub (lv' := [(0, .ref 149), (1, .int x1), (2, .int x2), (3, .int x3), (4, .int (x4 + v6)), (5, .int (x5 + 1))]) [2, 3, 4, 5, 1, 0] rfl ?_
      exact ih x1 x2 x3 (x4 + v6) (x5 + 1) I L _ h
def f_X12_odds_57 (I : MI) (L : ML) : Option (Int32 × MI × ML) := some (0, I, L)
set_option maxRecDepth 100000 in
theorem S_X12_odds_57 {g : Gx} (I : MI) (L : ML) (res : Int32 × MI × ML) (h : f_X12_odds_57 I L = some res) : E g 7 0 mX12_odds 57 [] [] (I, L) (.inl (some (.int res.1))) (res.2.1, res.2.2) := by
  unfold f_X12_odds_57 at h
  refine E_iconst (v := 0) 58 rfl dX12_odds_57 (by decide) ?_
  cases h
  exact E_iret rfl dX12_odds_58
def f_X12_odds_50 (x1 : Int32) (x2 : Int32) (x3 : Int32) (y1 : Bool) (I : MI) (L : ML) : Option (Int32 × MI × ML) := Option.bind (f_X12_throwsIf y1 2 I L) fun w1 => if w1.1 = true then (f_X12_odds_57 w1.2.1 w1.2.2) else (Option.bind (f_X12_spreads w1.2.1 w1.2.2) fun w3 => f_X12_odds_69 FU x1 x2 x3 0 0 w3.1 w3.2)
set_option maxRecDepth 100000 in
theorem S_X12_odds_50 {g : Gx} (x1 : Int32) (x2 : Int32) (x3 : Int32) (y1 : Bool) (I : MI) (L : ML) (res : Int32 × MI × ML) (h : f_X12_odds_50 x1 x2 x3 y1 I L = some res) : E g 7 0 mX12_odds 50 [(0, .ref 149), (1, .int x1), (2, .int x2), (3, .int x3)] [.int (bI y1), .ref 149] (I, L) (.inl (some (.int res.1))) (res.2.1, res.2.2) := by
  unfold f_X12_odds_50 at h
  refine E_iconst (v := 2) 51 rfl dX12_odds_50 (by decide) ?_
  obtain ⟨w1, hw1, h⟩ := Option.bind_eq_some_iff.mp h
  refine E_cV1 (As := [.int (bI y1), .int 2]) 54 rfl dX12_odds_51 shc_149 ck_X12_245 cv_X12_throwsIf rfl (by decide) (Nat.le_of_ble_eq_true rfl) (C_X12_throwsIf (g := g) hw1) rfl ?_
  refine E_if_eqB 59 57 (by decide) rfl dX12_odds_54 (fun c2 => ?_) (fun c2 => ?_)
  · rw [if_neg (by rw [c2]; decide)] at h
    refine E_aload_n 60 rfl dX12_odds_59 rfl 0 rfl ?_
    obtain ⟨w3, hw3, h⟩ := Option.bind_eq_some_iff.mp h
    refine E_cV0 (As := []) 63 rfl dX12_odds_60 shc_149 ck_X12_298 cv_X12_spreads rfl (by decide) (Nat.le_of_ble_eq_true rfl) (C_X12_spreads (g := g) hw3) rfl ?_
    refine E_iconst (v := 0) 64 rfl dX12_odds_63 (by decide) ?_
    refine E_istore (lv' := [(4, .int 0), (0, .ref 149), (1, .int x1), (2, .int x2), (3, .int x3)]) 66 rfl dX12_odds_64 (Nat.le_of_ble_eq_true rfl) rfl ?_
    refine E_iconst (v := 0) 67 rfl dX12_odds_66 (by decide) ?_
    refine E_istore (lv' := [(5, .int 0), (4, .int 0), (0, .ref 149), (1, .int x1), (2, .int x2), (3, .int x3)]) 69 rfl dX12_odds_67 (Nat.le_of_ble_eq_true rfl) rfl ?_
    refine E_sub (lv' := [(0, .ref 149), (1, .int x1), (2, .int x2), (3, .int x3), (4, .int 0), (5, .int 0)]) [2, 3, 4, 5, 1, 0] rfl ?_
    exact S_X12_odds_69 FU x1 x2 x3 0 0 w3.1 w3.2 _ h
  · rw [if_pos c2] at h
    refine E_sub (lv' := []) [] rfl ?_
    exact S_X12_odds_57 w1.2.1 w1.2.2 _ h
def f_X12_odds_27 (x1 : Int32) (x2 : Int32) (x3 : Int32) (y1 : Bool) (I : MI) (L : ML) : Option (Int32 × MI × ML) := Option.bind (f_X12_throwsIf y1 1 I L) fun w1 => if w1.1 = true then (f_X12_odds_57 w1.2.1 w1.2.2) else (Option.bind (f_X12_in x3 0 99 w1.2.1 w1.2.2) fun v3 => if v3 = true then (f_X12_odds_50 x1 x2 x3 false w1.2.1 w1.2.2) else (f_X12_odds_50 x1 x2 x3 true w1.2.1 w1.2.2))
set_option maxRecDepth 100000 in
theorem S_X12_odds_27 {g : Gx} (x1 : Int32) (x2 : Int32) (x3 : Int32) (y1 : Bool) (I : MI) (L : ML) (res : Int32 × MI × ML) (h : f_X12_odds_27 x1 x2 x3 y1 I L = some res) : E g 7 0 mX12_odds 27 [(0, .ref 149), (1, .int x1), (2, .int x2), (3, .int x3)] [.int (bI y1), .ref 149] (I, L) (.inl (some (.int res.1))) (res.2.1, res.2.2) := by
  unfold f_X12_odds_27 at h
  refine E_iconst (v := 1) 28 rfl dX12_odds_27 (by decide) ?_
  obtain ⟨w1, hw1, h⟩ := Option.bind_eq_some_iff.mp h
  refine E_cV1 (As := [.int (bI y1), .int 1]) 31 rfl dX12_odds_28 shc_149 ck_X12_245 cv_X12_throwsIf rfl (by decide) (Nat.le_of_ble_eq_true rfl) (C_X12_throwsIf (g := g) hw1) rfl ?_
  refine E_if_neB 57 34 (by decide) rfl dX12_odds_31 (fun c2 => ?_) (fun c2 => ?_)
  · rw [if_pos c2] at h
    refine E_sub (lv' := []) [] rfl ?_
    exact S_X12_odds_57 w1.2.1 w1.2.2 _ h
  · rw [if_neg (by rw [c2]; decide)] at h
    refine E_aload_n 35 rfl dX12_odds_34 rfl 0 rfl ?_
    refine E_iload_n 36 rfl dX12_odds_35 rfl 3 rfl ?_
    refine E_iconst (v := 0) 37 rfl dX12_odds_36 (by decide) ?_
    refine E_bipush (v := 99) 39 rfl dX12_odds_37 (by decide) ?_
    obtain ⟨v3, hv3, h⟩ := Option.bind_eq_some_iff.mp h
    refine E_cS1 (As := [.int x3, .int 0, .int 99]) 42 rfl dX12_odds_39 ck_X12_60 ss_X12_in rfl (by decide) (Nat.le_of_ble_eq_true rfl) (C_X12_in (g := g) hv3) rfl ?_
    refine E_if_neB 49 45 (by decide) rfl dX12_odds_42 (fun c4 => ?_) (fun c4 => ?_)
    · rw [if_pos c4] at h
      refine E_iconst (v := 0) 50 rfl dX12_odds_49 (by decide) ?_
      refine E_sub (lv' := [(0, .ref 149), (1, .int x1), (2, .int x2), (3, .int x3)]) [0, 1, 2, 3] rfl ?_
      exact S_X12_odds_50 x1 x2 x3 false w1.2.1 w1.2.2 _ h
    · rw [if_neg (by rw [c4]; decide)] at h
      refine E_iconst (v := 1) 46 rfl dX12_odds_45 (by decide) ?_
      refine E_goto 50 (by decide) dX12_odds_46 ?_
      refine E_sub (lv' := [(0, .ref 149), (1, .int x1), (2, .int x2), (3, .int x3)]) [0, 1, 2, 3] rfl ?_
      exact S_X12_odds_50 x1 x2 x3 true w1.2.1 w1.2.2 _ h
def f_X12_odds_22 (x1 : Int32) (x2 : Int32) (x3 : Int32) (I : MI) (L : ML) : Option (Int32 × MI × ML) := f_X12_odds_27 x1 x2 x3 true I L
set_option maxRecDepth 100000 in
theorem S_X12_odds_22 {g : Gx} (x1 : Int32) (x2 : Int32) (x3 : Int32) (I : MI) (L : ML) (res : Int32 × MI × ML) (h : f_X12_odds_22 x1 x2 x3 I L = some res) : E g 7 0 mX12_odds 22 [(0, .ref 149), (1, .int x1), (2, .int x2), (3, .int x3)] [.ref 149] (I, L) (.inl (some (.int res.1))) (res.2.1, res.2.2) := by
  unfold f_X12_odds_22 at h
  refine E_iconst (v := 1) 23 rfl dX12_odds_22 (by decide) ?_
  refine E_goto 27 (by decide) dX12_odds_23 ?_
  refine E_sub (lv' := [(0, .ref 149), (1, .int x1), (2, .int x2), (3, .int x3)]) [0, 1, 2, 3] rfl ?_
  exact S_X12_odds_27 x1 x2 x3 true I L _ h
def f_X12_odds (x1 : Int32) (x2 : Int32) (x3 : Int32) (I : MI) (L : ML) : Option (Int32 × MI × ML) := Option.bind (pfI I 149 0 0) fun I1 => Option.bind (f_X12_noNoise x1 I1 L) fun v2 => if v2 = true then (f_X12_odds_22 x1 x2 x3 I1 L) else (Option.bind (f_X12_noRoom x2 I1 L) fun v4 => if v4 = true then (f_X12_odds_22 x1 x2 x3 I1 L) else (f_X12_odds_27 x1 x2 x3 false I1 L))
set_option maxRecDepth 100000 in
theorem S_X12_odds {g : Gx} (x1 : Int32) (x2 : Int32) (x3 : Int32) (I : MI) (L : ML) (res : Int32 × MI × ML) (h : f_X12_odds x1 x2 x3 I L = some res) : E g 7 0 mX12_odds 0 [(0, .ref 149), (1, .int x1), (2, .int x2), (3, .int x3)] [] (I, L) (.inl (some (.int res.1))) (res.2.1, res.2.2) := by
  unfold f_X12_odds at h
  refine E_aload_n 1 rfl dX12_odds_0 rfl 0 rfl ?_
  refine E_iconst (v := 0) 2 rfl dX12_odds_1 (by decide) ?_
  obtain ⟨I1, hI1, h⟩ := Option.bind_eq_some_iff.mp h
  refine E_pfI 5 rfl dX12_odds_2 shc_149 fl_X12_3 rfl hI1 ?_
  refine E_aload_n 6 rfl dX12_odds_5 rfl 0 rfl ?_
  refine E_aload_n 7 rfl dX12_odds_6 rfl 0 rfl ?_
  refine E_iload_n 8 rfl dX12_odds_7 rfl 1 rfl ?_
  obtain ⟨v2, hv2, h⟩ := Option.bind_eq_some_iff.mp h
  refine E_cV1 (As := [.int x1]) 11 rfl dX12_odds_8 shc_149 ck_X12_304 cv_X12_noNoise rfl (by decide) (Nat.le_of_ble_eq_true rfl) (C_X12_noNoise (g := g) hv2) rfl ?_
  refine E_if_neB 22 14 (by decide) rfl dX12_odds_11 (fun c3 => ?_) (fun c3 => ?_)
  · rw [if_pos c3] at h
    refine E_sub (lv' := [(0, .ref 149), (1, .int x1), (2, .int x2), (3, .int x3)]) [0, 1, 2, 3] rfl ?_
    exact S_X12_odds_22 x1 x2 x3 I1 L _ h
  · rw [if_neg (by rw [c3]; decide)] at h
    refine E_aload_n 15 rfl dX12_odds_14 rfl 0 rfl ?_
    refine E_iload_n 16 rfl dX12_odds_15 rfl 2 rfl ?_
    obtain ⟨v4, hv4, h⟩ := Option.bind_eq_some_iff.mp h
    refine E_cV1 (As := [.int x2]) 19 rfl dX12_odds_16 shc_149 ck_X12_292 cv_X12_noRoom rfl (by decide) (Nat.le_of_ble_eq_true rfl) (C_X12_noRoom (g := g) hv4) rfl ?_
    refine E_if_eqB 26 22 (by decide) rfl dX12_odds_19 (fun c5 => ?_) (fun c5 => ?_)
    · rw [if_neg (by rw [c5]; decide)] at h
      refine E_iconst (v := 0) 27 rfl dX12_odds_26 (by decide) ?_
      refine E_sub (lv' := [(0, .ref 149), (1, .int x1), (2, .int x2), (3, .int x3)]) [0, 1, 2, 3] rfl ?_
      exact S_X12_odds_27 x1 x2 x3 false I1 L _ h
    · rw [if_pos c5] at h
      refine E_sub (lv' := [(0, .ref 149), (1, .int x1), (2, .int x2), (3, .int x3)]) [0, 1, 2, 3] rfl ?_
      exact S_X12_odds_22 x1 x2 x3 I1 L _ h
theorem C_X12_odds {g : Gx} {x1 : Int32} {x2 : Int32} {x3 : Int32} {I : MI} {L : ML} {res : Int32 × MI × ML} (h : f_X12_odds x1 x2 x3 I L = some res) : Ent g 7 0 mX12_odds [.ref 149, .int x1, .int x2, .int x3] (I, L) (.inl (some (.int res.1))) (res.2.1, res.2.2) := Ent_of (by decide +kernel) (Nat.le_of_ble_eq_true rfl) (S_X12_odds x1 x2 x3 I L _ h)
def f_X12_likeliest_87 (k55 : Int32 → Int32 → Int32 → Int32 → Int32 → MI → ML → Option (Int32 × MI × ML)) (x1 : Int32) (x2 : Int32) (x4 : Int32) (x5 : Int32) (x6 : Int32) (y0 : Int32) (I : MI) (L : ML) : Option (Int32 × MI × ML) := k55 x1 x2 y0 (if x4 < x6 then x6 else x4) (x5 + 1) I L
set_option maxRecDepth 100000 in
theorem S_X12_likeliest_87 {g : Gx} {k55 : Int32 → Int32 → Int32 → Int32 → Int32 → MI → ML → Option (Int32 × MI × ML)} (hk55 : ∀ (x1z : Int32) (x2z : Int32) (x3z : Int32) (x4z : Int32) (x5z : Int32) (I : MI) (L : ML) (res : Int32 × MI × ML), k55 x1z x2z x3z x4z x5z I L = some res → E g 7 0 mX12_likeliest 55 [(0, .ref 149), (1, .int x1z), (2, .int x2z), (3, .int x3z), (4, .int x4z), (5, .int x5z)] [] (I, L) (.inl (some (.int res.1))) (res.2.1, res.2.2)) (x1 : Int32) (x2 : Int32) (x4 : Int32) (x5 : Int32) (x6 : Int32) (y0 : Int32) (I : MI) (L : ML) (res : Int32 × MI × ML) (h : f_X12_likeliest_87 k55 x1 x2 x4 x5 x6 y0 I L = some res) : E g 7 0 mX12_likeliest 87 [(0, .ref 149), (1, .int x1), (2, .int x2), (4, .int x4), (5, .int x5), (6, .int x6)] [.int y0] (I, L) (.inl (some (.int res.1))) (res.2.1, res.2.2) := by
  unfold f_X12_likeliest_87 at h
  refine E_istore_n (lv' := [(3, .int y0), (0, .ref 149), (1, .int x1), (2, .int x2), (4, .int x4), (5, .int x5), (6, .int x6)]) 88 rfl dX12_likeliest_87 rfl (Nat.le_of_ble_eq_true rfl) rfl ?_
  refine E_iload 90 rfl dX12_likeliest_88 4 rfl ?_
  refine E_iload 92 rfl dX12_likeliest_90 6 rfl ?_
  refine E_max 95 rfl dX12_likeliest_92 jm_X12_263 (by decide) (Nat.le_of_ble_eq_true rfl) ?_
  refine E_istore (lv' := [(4, .int (if x4 < x6 then x6 else x4)), (3, .int y0), (0, .ref 149), (1, .int x1), (2, .int x2), (5, .int x5), (6, .int x6)]) 97 rfl dX12_likeliest_95 (Nat.le_of_ble_eq_true rfl) rfl ?_
  refine E_iinc (j := 5) (v := x5 + 1) (lv' := [(5, .int (x5 + 1)), (4, .int (if x4 < x6 then x6 else x4)), (3, .int y0), (0, .ref 149), (1, .int x1), (2, .int x2), (6, .int x6)]) 100 rfl dX12_likeliest_97 rfl rfl (Nat.le_of_ble_eq_true rfl) rfl ?_
  refine E_goto 55 (by decide) dX12_likeliest_100 ?_
  refine E_sub (lv' := [(0, .ref 149), (1, .int x1), (2, .int x2), (3, .int y0), (4, .int (if x4 < x6 then x6 else x4)), (5, .int (x5 + 1))]) [3, 4, 5, 2, 1, 0] rfl ?_
  exact hk55 x1 x2 y0 (if x4 < x6 then x6 else x4) (x5 + 1) I L _ h
def f_X12_likeliest_55 : Nat → Int32 → Int32 → Int32 → Int32 → Int32 → MI → ML → Option (Int32 × MI × ML)
  | 0, _, _, _, _, _, _, _ => none
  | n + 1, x1, x2, x3, x4, x5, I, L => Option.bind (f_X12_noises I L) fun v1 => if v1 ≤ x5 then (some (x3, I, L)) else (Option.bind (f_X12_weightOf x5 x1 x2 I L) fun v3 => if v3 ≤ x4 then (f_X12_likeliest_87 (f_X12_likeliest_55 n) x1 x2 x4 x5 v3 x3 I L) else (f_X12_likeliest_87 (f_X12_likeliest_55 n) x1 x2 x4 x5 v3 x5 I L))
set_option maxRecDepth 100000 in
theorem S_X12_likeliest_55 {g : Gx} : ∀ (n : Nat) (x1 : Int32) (x2 : Int32) (x3 : Int32) (x4 : Int32) (x5 : Int32) (I : MI) (L : ML) (res : Int32 × MI × ML), f_X12_likeliest_55 n x1 x2 x3 x4 x5 I L = some res → E g 7 0 mX12_likeliest 55 [(0, .ref 149), (1, .int x1), (2, .int x2), (3, .int x3), (4, .int x4), (5, .int x5)] [] (I, L) (.inl (some (.int res.1))) (res.2.1, res.2.2) := by
  intro n
  induction n with
  | zero =>
    intros
    rename_i h
    cases h
  | succ n ih =>
    intro x1 x2 x3 x4 x5 I L res h
    rw [f_X12_likeliest_55] at h
    refine E_iload 57 rfl dX12_likeliest_55 5 rfl ?_
    refine E_aload_n 58 rfl dX12_likeliest_57 rfl 0 rfl ?_
    obtain ⟨v1, hv1, h⟩ := Option.bind_eq_some_iff.mp h
    refine E_cV1 (As := []) 61 rfl dX12_likeliest_58 shc_149 ck_X12_67 cv_X12_noises rfl (by decide) (Nat.le_of_ble_eq_true rfl) (C_X12_noises (g := g) hv1) rfl ?_
    refine E_icmp_ge 103 64 (by decide) rfl dX12_likeliest_61 (fun c2 => ?_) (fun c2 => ?_)
    · rw [if_pos c2] at h
      refine E_iload_n 104 rfl dX12_likeliest_103 rfl 3 rfl ?_
      cases h
      exact E_iret rfl dX12_likeliest_104
    · rw [if_neg c2] at h
      refine E_aload_n 65 rfl dX12_likeliest_64 rfl 0 rfl ?_
      refine E_iload 67 rfl dX12_likeliest_65 5 rfl ?_
      refine E_iload_n 68 rfl dX12_likeliest_67 rfl 1 rfl ?_
      refine E_iload_n 69 rfl dX12_likeliest_68 rfl 2 rfl ?_
      obtain ⟨v3, hv3, h⟩ := Option.bind_eq_some_iff.mp h
      refine E_cV1 (As := [.int x5, .int x1, .int x2]) 72 rfl dX12_likeliest_69 shc_149 ck_X12_335 cv_X12_weightOf rfl (by decide) (Nat.le_of_ble_eq_true rfl) (C_X12_weightOf (g := g) hv3) rfl ?_
      refine E_istore (lv' := [(6, .int v3), (0, .ref 149), (1, .int x1), (2, .int x2), (3, .int x3), (4, .int x4), (5, .int x5)]) 74 rfl dX12_likeliest_72 (Nat.le_of_ble_eq_true rfl) rfl ?_
      refine E_iload 76 rfl dX12_likeliest_74 0 rfl ?_
      refine E_iload 78 rfl dX12_likeliest_76 5 rfl ?_
      refine E_icmp_le 86 81 (by decide) rfl dX12_likeliest_78 (fun c4 => ?_) (fun c4 => ?_)
      · rw [if_pos c4] at h
        refine E_iload_n 87 rfl dX12_likeliest_86 rfl 4 rfl ?_
        refine E_sub (lv' := [(0, .ref 149), (1, .int x1), (2, .int x2), (4, .int x4), (5, .int x5), (6, .int v3)]) [1, 2, 3, 5, 6, 0] rfl ?_
        exact S_X12_likeliest_87 ih x1 x2 x4 x5 v3 x3 I L _ h
      · rw [if_neg c4] at h
        refine E_iload 83 rfl dX12_likeliest_81 6 rfl ?_
        refine E_goto 87 (by decide) dX12_likeliest_83 ?_
        refine E_sub (lv' := [(0, .ref 149), (1, .int x1), (2, .int x2), (4, .int x4), (5, .int x5), (6, .int v3)]) [1, 2, 3, 5, 6, 0] rfl ?_
        exact S_X12_likeliest_87 ih x1 x2 x4 x5 v3 x5 I L _ h
def f_X12_likeliest_41 (I : MI) (L : ML) : Option (Int32 × MI × ML) := some (0, I, L)
set_option maxRecDepth 100000 in
theorem S_X12_likeliest_41 {g : Gx} (I : MI) (L : ML) (res : Int32 × MI × ML) (h : f_X12_likeliest_41 I L = some res) : E g 7 0 mX12_likeliest 41 [] [] (I, L) (.inl (some (.int res.1))) (res.2.1, res.2.2) := by
  unfold f_X12_likeliest_41 at h
  refine E_iconst (v := 0) 42 rfl dX12_likeliest_41 (by decide) ?_
  cases h
  exact E_iret rfl dX12_likeliest_42
def f_X12_likeliest_34 (x1 : Int32) (x2 : Int32) (y1 : Bool) (I : MI) (L : ML) : Option (Int32 × MI × ML) := Option.bind (f_X12_throwsIf y1 2 I L) fun w1 => if w1.1 = true then (f_X12_likeliest_41 w1.2.1 w1.2.2) else (Option.bind (f_X12_spreads w1.2.1 w1.2.2) fun w3 => f_X12_likeliest_55 FU x1 x2 ((-1)) 0 0 w3.1 w3.2)
set_option maxRecDepth 100000 in
theorem S_X12_likeliest_34 {g : Gx} (x1 : Int32) (x2 : Int32) (y1 : Bool) (I : MI) (L : ML) (res : Int32 × MI × ML) (h : f_X12_likeliest_34 x1 x2 y1 I L = some res) : E g 7 0 mX12_likeliest 34 [(0, .ref 149), (1, .int x1), (2, .int x2)] [.int (bI y1), .ref 149] (I, L) (.inl (some (.int res.1))) (res.2.1, res.2.2) := by
  unfold f_X12_likeliest_34 at h
  refine E_iconst (v := 2) 35 rfl dX12_likeliest_34 (by decide) ?_
  obtain ⟨w1, hw1, h⟩ := Option.bind_eq_some_iff.mp h
  refine E_cV1 (As := [.int (bI y1), .int 2]) 38 rfl dX12_likeliest_35 shc_149 ck_X12_245 cv_X12_throwsIf rfl (by decide) (Nat.le_of_ble_eq_true rfl) (C_X12_throwsIf (g := g) hw1) rfl ?_
  refine E_if_eqB 43 41 (by decide) rfl dX12_likeliest_38 (fun c2 => ?_) (fun c2 => ?_)
  · rw [if_neg (by rw [c2]; decide)] at h
    refine E_aload_n 44 rfl dX12_likeliest_43 rfl 0 rfl ?_
    obtain ⟨w3, hw3, h⟩ := Option.bind_eq_some_iff.mp h
    refine E_cV0 (As := []) 47 rfl dX12_likeliest_44 shc_149 ck_X12_298 cv_X12_spreads rfl (by decide) (Nat.le_of_ble_eq_true rfl) (C_X12_spreads (g := g) hw3) rfl ?_
    refine E_iconst (v := (-1)) 48 rfl dX12_likeliest_47 (by decide) ?_
    refine E_istore_n (lv' := [(3, .int ((-1))), (0, .ref 149), (1, .int x1), (2, .int x2)]) 49 rfl dX12_likeliest_48 rfl (Nat.le_of_ble_eq_true rfl) rfl ?_
    refine E_iconst (v := 0) 50 rfl dX12_likeliest_49 (by decide) ?_
    refine E_istore (lv' := [(4, .int 0), (3, .int ((-1))), (0, .ref 149), (1, .int x1), (2, .int x2)]) 52 rfl dX12_likeliest_50 (Nat.le_of_ble_eq_true rfl) rfl ?_
    refine E_iconst (v := 0) 53 rfl dX12_likeliest_52 (by decide) ?_
    refine E_istore (lv' := [(5, .int 0), (4, .int 0), (3, .int ((-1))), (0, .ref 149), (1, .int x1), (2, .int x2)]) 55 rfl dX12_likeliest_53 (Nat.le_of_ble_eq_true rfl) rfl ?_
    refine E_sub (lv' := [(0, .ref 149), (1, .int x1), (2, .int x2), (3, .int ((-1))), (4, .int 0), (5, .int 0)]) [3, 4, 5, 2, 1, 0] rfl ?_
    exact S_X12_likeliest_55 FU x1 x2 ((-1)) 0 0 w3.1 w3.2 _ h
  · rw [if_pos c2] at h
    refine E_sub (lv' := []) [] rfl ?_
    exact S_X12_likeliest_41 w1.2.1 w1.2.2 _ h
def f_X12_likeliest (x1 : Int32) (x2 : Int32) (I : MI) (L : ML) : Option (Int32 × MI × ML) := Option.bind (pfI I 149 0 0) fun I1 => Option.bind (f_X12_noRoom x1 I1 L) fun v2 => Option.bind (f_X12_throwsIf v2 1 I1 L) fun w3 => if w3.1 = true then (f_X12_likeliest_41 w3.2.1 w3.2.2) else (Option.bind (f_X12_in x2 0 99 w3.2.1 w3.2.2) fun v5 => if v5 = true then (f_X12_likeliest_34 x1 x2 false w3.2.1 w3.2.2) else (f_X12_likeliest_34 x1 x2 true w3.2.1 w3.2.2))
set_option maxRecDepth 100000 in
theorem S_X12_likeliest {g : Gx} (x1 : Int32) (x2 : Int32) (I : MI) (L : ML) (res : Int32 × MI × ML) (h : f_X12_likeliest x1 x2 I L = some res) : E g 7 0 mX12_likeliest 0 [(0, .ref 149), (1, .int x1), (2, .int x2)] [] (I, L) (.inl (some (.int res.1))) (res.2.1, res.2.2) := by
  unfold f_X12_likeliest at h
  refine E_aload_n 1 rfl dX12_likeliest_0 rfl 0 rfl ?_
  refine E_iconst (v := 0) 2 rfl dX12_likeliest_1 (by decide) ?_
  obtain ⟨I1, hI1, h⟩ := Option.bind_eq_some_iff.mp h
  refine E_pfI 5 rfl dX12_likeliest_2 shc_149 fl_X12_3 rfl hI1 ?_
  refine E_aload_n 6 rfl dX12_likeliest_5 rfl 0 rfl ?_
  refine E_aload_n 7 rfl dX12_likeliest_6 rfl 0 rfl ?_
  refine E_iload_n 8 rfl dX12_likeliest_7 rfl 1 rfl ?_
  obtain ⟨v2, hv2, h⟩ := Option.bind_eq_some_iff.mp h
  refine E_cV1 (As := [.int x1]) 11 rfl dX12_likeliest_8 shc_149 ck_X12_292 cv_X12_noRoom rfl (by decide) (Nat.le_of_ble_eq_true rfl) (C_X12_noRoom (g := g) hv2) rfl ?_
  refine E_iconst (v := 1) 12 rfl dX12_likeliest_11 (by decide) ?_
  obtain ⟨w3, hw3, h⟩ := Option.bind_eq_some_iff.mp h
  refine E_cV1 (As := [.int (bI v2), .int 1]) 15 rfl dX12_likeliest_12 shc_149 ck_X12_245 cv_X12_throwsIf rfl (by decide) (Nat.le_of_ble_eq_true rfl) (C_X12_throwsIf (g := g) hw3) rfl ?_
  refine E_if_neB 41 18 (by decide) rfl dX12_likeliest_15 (fun c4 => ?_) (fun c4 => ?_)
  · rw [if_pos c4] at h
    refine E_sub (lv' := []) [] rfl ?_
    exact S_X12_likeliest_41 w3.2.1 w3.2.2 _ h
  · rw [if_neg (by rw [c4]; decide)] at h
    refine E_aload_n 19 rfl dX12_likeliest_18 rfl 0 rfl ?_
    refine E_iload_n 20 rfl dX12_likeliest_19 rfl 2 rfl ?_
    refine E_iconst (v := 0) 21 rfl dX12_likeliest_20 (by decide) ?_
    refine E_bipush (v := 99) 23 rfl dX12_likeliest_21 (by decide) ?_
    obtain ⟨v5, hv5, h⟩ := Option.bind_eq_some_iff.mp h
    refine E_cS1 (As := [.int x2, .int 0, .int 99]) 26 rfl dX12_likeliest_23 ck_X12_60 ss_X12_in rfl (by decide) (Nat.le_of_ble_eq_true rfl) (C_X12_in (g := g) hv5) rfl ?_
    refine E_if_neB 33 29 (by decide) rfl dX12_likeliest_26 (fun c6 => ?_) (fun c6 => ?_)
    · rw [if_pos c6] at h
      refine E_iconst (v := 0) 34 rfl dX12_likeliest_33 (by decide) ?_
      refine E_sub (lv' := [(0, .ref 149), (1, .int x1), (2, .int x2)]) [0, 1, 2] rfl ?_
      exact S_X12_likeliest_34 x1 x2 false w3.2.1 w3.2.2 _ h
    · rw [if_neg (by rw [c6]; decide)] at h
      refine E_iconst (v := 1) 30 rfl dX12_likeliest_29 (by decide) ?_
      refine E_goto 34 (by decide) dX12_likeliest_30 ?_
      refine E_sub (lv' := [(0, .ref 149), (1, .int x1), (2, .int x2)]) [0, 1, 2] rfl ?_
      exact S_X12_likeliest_34 x1 x2 true w3.2.1 w3.2.2 _ h
theorem C_X12_likeliest {g : Gx} {x1 : Int32} {x2 : Int32} {I : MI} {L : ML} {res : Int32 × MI × ML} (h : f_X12_likeliest x1 x2 I L = some res) : Ent g 7 0 mX12_likeliest [.ref 149, .int x1, .int x2] (I, L) (.inl (some (.int res.1))) (res.2.1, res.2.2) := Ent_of (by decide +kernel) (Nat.le_of_ble_eq_true rfl) (S_X12_likeliest x1 x2 I L _ h)
def f_X12_winterOf_64 (x2 : Int32) (y0 : Int32) (I : MI) (L : ML) : Option (Int64) := some (y0.toInt64 * x2.toInt64)
set_option maxRecDepth 100000 in
theorem S_X12_winterOf_64 {g : Gx} (x2 : Int32) (y0 : Int32) (I : MI) (L : ML) (res : Int64) (h : f_X12_winterOf_64 x2 y0 I L = some res) : E g 5 0 mX12_winterOf 64 [(2, .int x2)] [.int y0] (I, L) (.inl (some (.long res))) (I, L) := by
  unfold f_X12_winterOf_64 at h
  refine E_istore (lv' := [(4, .int y0), (2, .int x2)]) 66 rfl dX12_winterOf_64 (Nat.le_of_ble_eq_true rfl) rfl ?_
  refine E_iload 68 rfl dX12_winterOf_66 0 rfl ?_
  refine E_i2l 69 rfl dX12_winterOf_68 ?_
  refine E_iload_n 70 rfl dX12_winterOf_69 rfl 1 rfl ?_
  refine E_i2l 71 rfl dX12_winterOf_70 ?_
  refine E_lmul 72 rfl dX12_winterOf_71 ?_
  cases h
  exact E_lret rfl dX12_winterOf_72
def f_X12_winterOf (x1 : Int32) (x2 : Int32) (I : MI) (L : ML) : Option (Int64) := Option.bind (f_X12_of x1 0 I L) fun v1 => if v1 = 0 then (Option.bind (f_X12_of x1 6 I L) fun v7 => Option.bind (f_J6_bitCount_0f7a4 v7 I L) fun v8 => f_X12_winterOf_64 x2 (100 * v8) I L) else (if v1 = 1 then (Option.bind (ldI I 150 2143 8) fun v6 => f_X12_winterOf_64 x2 (24 * v6) I L) else (if v1 = 2 then (Option.bind (f_X12_of x1 6 I L) fun v5 => f_X12_winterOf_64 x2 (24 * v5) I L) else (f_X12_winterOf_64 x2 0 I L)))
set_option maxRecDepth 100000 in
theorem S_X12_winterOf {g : Gx} (x1 : Int32) (x2 : Int32) (I : MI) (L : ML) (res : Int64) (h : f_X12_winterOf x1 x2 I L = some res) : E g 5 0 mX12_winterOf 0 [(0, .ref 149), (1, .int x1), (2, .int x2)] [] (I, L) (.inl (some (.long res))) (I, L) := by
  unfold f_X12_winterOf at h
  refine E_aload_n 1 rfl dX12_winterOf_0 rfl 0 rfl ?_
  refine E_iload_n 2 rfl dX12_winterOf_1 rfl 1 rfl ?_
  refine E_iconst (v := 0) 3 rfl dX12_winterOf_2 (by decide) ?_
  obtain ⟨v1, hv1, h⟩ := Option.bind_eq_some_iff.mp h
  refine E_cV1 (As := [.int x1, .int 0]) 6 rfl dX12_winterOf_3 shc_149 ck_X12_260 cv_X12_of rfl (by decide) (Nat.le_of_ble_eq_true rfl) (C_X12_of (g := g) hv1) rfl ?_
  refine E_istore_n (lv' := [(3, .int v1), (0, .ref 149), (1, .int x1), (2, .int x2)]) 7 rfl dX12_winterOf_6 rfl (Nat.le_of_ble_eq_true rfl) rfl ?_
  refine E_iload_n 8 rfl dX12_winterOf_7 rfl 0 rfl ?_
  refine E_if_ne 27 11 (by decide) rfl dX12_winterOf_8 (fun c2 => ?_) (fun c2 => ?_)
  · rw [if_neg c2] at h
    refine E_iload_n 28 rfl dX12_winterOf_27 rfl 0 rfl ?_
    refine E_iconst (v := 1) 29 rfl dX12_winterOf_28 (by decide) ?_
    refine E_icmp_ne 45 32 (by decide) rfl dX12_winterOf_29 (fun c3 => ?_) (fun c3 => ?_)
    · rw [if_neg c3] at h
      refine E_iload_n 46 rfl dX12_winterOf_45 rfl 0 rfl ?_
      refine E_iconst (v := 2) 47 rfl dX12_winterOf_46 (by decide) ?_
      refine E_icmp_ne 63 50 (by decide) rfl dX12_winterOf_47 (fun c4 => ?_) (fun c4 => ?_)
      · rw [if_neg c4] at h
        refine E_iconst (v := 0) 64 rfl dX12_winterOf_63 (by decide) ?_
        refine E_sub (lv' := [(2, .int x2)]) [3] rfl ?_
        exact S_X12_winterOf_64 x2 0 I L _ h
      · rw [if_pos c4] at h
        refine E_bipush (v := 24) 52 rfl dX12_winterOf_50 (by decide) ?_
        refine E_aload_n 53 rfl dX12_winterOf_52 rfl 1 rfl ?_
        refine E_iload_n 54 rfl dX12_winterOf_53 rfl 2 rfl ?_
        refine E_bipush (v := 6) 56 rfl dX12_winterOf_54 (by decide) ?_
        obtain ⟨v5, hv5, h⟩ := Option.bind_eq_some_iff.mp h
        refine E_cV1 (As := [.int x1, .int 6]) 59 rfl dX12_winterOf_56 shc_149 ck_X12_260 cv_X12_of rfl (by decide) (Nat.le_of_ble_eq_true rfl) (C_X12_of (g := g) hv5) rfl ?_
        refine E_imul 60 rfl dX12_winterOf_59 ?_
        refine E_goto 64 (by decide) dX12_winterOf_60 ?_
        refine E_sub (lv' := [(2, .int x2)]) [3] rfl ?_
        exact S_X12_winterOf_64 x2 (24 * v5) I L _ h
    · rw [if_pos c3] at h
      refine E_bipush (v := 24) 34 rfl dX12_winterOf_32 (by decide) ?_
      refine E_aload_n 35 rfl dX12_winterOf_34 rfl 1 rfl ?_
      refine E_gR 150 38 rfl dX12_winterOf_35 shc_149 fl_X12_13 rfl (by decide) (by decide) ?_
      refine E_bipush (v := 8) 40 rfl dX12_winterOf_38 (by decide) ?_
      obtain ⟨v6, hv6, h⟩ := Option.bind_eq_some_iff.mp h
      refine E_ldI 41 rfl dX12_winterOf_40 shc_150 hv6 ?_
      refine E_imul 42 rfl dX12_winterOf_41 ?_
      refine E_goto 64 (by decide) dX12_winterOf_42 ?_
      refine E_sub (lv' := [(2, .int x2)]) [3] rfl ?_
      exact S_X12_winterOf_64 x2 (24 * v6) I L _ h
  · rw [if_pos c2] at h
    refine E_bipush (v := 100) 13 rfl dX12_winterOf_11 (by decide) ?_
    refine E_aload_n 14 rfl dX12_winterOf_13 rfl 1 rfl ?_
    refine E_iload_n 15 rfl dX12_winterOf_14 rfl 2 rfl ?_
    refine E_bipush (v := 6) 17 rfl dX12_winterOf_15 (by decide) ?_
    obtain ⟨v7, hv7, h⟩ := Option.bind_eq_some_iff.mp h
    refine E_cV1 (As := [.int x1, .int 6]) 20 rfl dX12_winterOf_17 shc_149 ck_X12_260 cv_X12_of rfl (by decide) (Nat.le_of_ble_eq_true rfl) (C_X12_of (g := g) hv7) rfl ?_
    obtain ⟨v8, hv8, h⟩ := Option.bind_eq_some_iff.mp h
    refine E_cS1 (As := [.int v7]) 23 rfl dX12_winterOf_20 ck_X12_339 ss_J6_bitCount_0f7a4 rfl (by decide) (Nat.le_of_ble_eq_true rfl) (C_J6_bitCount_0f7a4 (g := g) hv8) rfl ?_
    refine E_imul 24 rfl dX12_winterOf_23 ?_
    refine E_goto 64 (by decide) dX12_winterOf_24 ?_
    refine E_sub (lv' := [(2, .int x2)]) [3] rfl ?_
    exact S_X12_winterOf_64 x2 (100 * v8) I L _ h
theorem C_X12_winterOf {g : Gx} {x1 : Int32} {x2 : Int32} {I : MI} {L : ML} {res : Int64} (h : f_X12_winterOf x1 x2 I L = some res) : Ent g 5 0 mX12_winterOf [.ref 149, .int x1, .int x2] (I, L) (.inl (some (.long res))) (I, L) := Ent_of (by decide +kernel) (Nat.le_of_ble_eq_true rfl) (S_X12_winterOf x1 x2 I L _ h)
def f_X12_dueOf_26 (y0 : Int64) (I : MI) (L : ML) : Option (Int64) := some y0
set_option maxRecDepth 100000 in
theorem S_X12_dueOf_26 {g : Gx} (y0 : Int64) (I : MI) (L : ML) (res : Int64) (h : f_X12_dueOf_26 y0 I L = some res) : E g 8 0 mX12_dueOf 26 [] [.long y0] (I, L) (.inl (some (.long res))) (I, L) := by
  unfold f_X12_dueOf_26 at h
  cases h
  exact E_lret rfl dX12_dueOf_26
def f_X12_dueOf (x1 : Int32) (x2 : Int32) (I : MI) (L : ML) : Option (Int64) := Option.bind (f_X12_isHeard x1 I L) fun v1 => if v1 = true then (Option.bind (f_X12_winterOf x1 x2 I L) fun v3 => Option.bind (f_X12_of x1 4 I L) fun v4 => f_X12_dueOf_26 (v3 * v4.toInt64) I L) else (f_X12_dueOf_26 0 I L)
set_option maxRecDepth 100000 in
theorem S_X12_dueOf {g : Gx} (x1 : Int32) (x2 : Int32) (I : MI) (L : ML) (res : Int64) (h : f_X12_dueOf x1 x2 I L = some res) : E g 8 0 mX12_dueOf 0 [(0, .ref 149), (1, .int x1), (2, .int x2)] [] (I, L) (.inl (some (.long res))) (I, L) := by
  unfold f_X12_dueOf at h
  refine E_aload_n 1 rfl dX12_dueOf_0 rfl 0 rfl ?_
  refine E_iload_n 2 rfl dX12_dueOf_1 rfl 1 rfl ?_
  obtain ⟨v1, hv1, h⟩ := Option.bind_eq_some_iff.mp h
  refine E_cV1 (As := [.int x1]) 5 rfl dX12_dueOf_2 shc_149 ck_X12_320 cv_X12_isHeard rfl (by decide) (Nat.le_of_ble_eq_true rfl) (C_X12_isHeard (g := g) hv1) rfl ?_
  refine E_if_eqB 25 8 (by decide) rfl dX12_dueOf_5 (fun c2 => ?_) (fun c2 => ?_)
  · rw [if_neg (by rw [c2]; decide)] at h
    refine E_lconst (v := 0) 26 rfl dX12_dueOf_25 (by decide) ?_
    refine E_sub (lv' := []) [] rfl ?_
    exact S_X12_dueOf_26 0 I L _ h
  · rw [if_pos c2] at h
    refine E_aload_n 9 rfl dX12_dueOf_8 rfl 0 rfl ?_
    refine E_iload_n 10 rfl dX12_dueOf_9 rfl 1 rfl ?_
    refine E_iload_n 11 rfl dX12_dueOf_10 rfl 2 rfl ?_
    obtain ⟨v3, hv3, h⟩ := Option.bind_eq_some_iff.mp h
    refine E_cV1 (As := [.int x1, .int x2]) 14 rfl dX12_dueOf_11 shc_149 ck_X12_344 cv_X12_winterOf rfl (by decide) (Nat.le_of_ble_eq_true rfl) (C_X12_winterOf (g := g) hv3) rfl ?_
    refine E_aload_n 15 rfl dX12_dueOf_14 rfl 0 rfl ?_
    refine E_iload_n 16 rfl dX12_dueOf_15 rfl 1 rfl ?_
    refine E_iconst (v := 4) 17 rfl dX12_dueOf_16 (by decide) ?_
    obtain ⟨v4, hv4, h⟩ := Option.bind_eq_some_iff.mp h
    refine E_cV1 (As := [.int x1, .int 4]) 20 rfl dX12_dueOf_17 shc_149 ck_X12_260 cv_X12_of rfl (by decide) (Nat.le_of_ble_eq_true rfl) (C_X12_of (g := g) hv4) rfl ?_
    refine E_i2l 21 rfl dX12_dueOf_20 ?_
    refine E_lmul 22 rfl dX12_dueOf_21 ?_
    refine E_goto 26 (by decide) dX12_dueOf_22 ?_
    refine E_sub (lv' := []) [] rfl ?_
    exact S_X12_dueOf_26 (v3 * v4.toInt64) I L _ h
theorem C_X12_dueOf {g : Gx} {x1 : Int32} {x2 : Int32} {I : MI} {L : ML} {res : Int64} (h : f_X12_dueOf x1 x2 I L = some res) : Ent g 8 0 mX12_dueOf [.ref 149, .int x1, .int x2] (I, L) (.inl (some (.long res))) (I, L) := Ent_of (by decide +kernel) (Nat.le_of_ble_eq_true rfl) (S_X12_dueOf x1 x2 I L _ h)
def f_X12_noDays_16 (y0 : Bool) (I : MI) (L : ML) : Option (Bool) := some y0
set_option maxRecDepth 100000 in
theorem S_X12_noDays_16 {g : Gx} (y0 : Bool) (I : MI) (L : ML) (res : Bool) (h : f_X12_noDays_16 y0 I L = some res) : E g 2 0 mX12_noDays 16 [] [.int (bI y0)] (I, L) (.inl (some (.int (bI res)))) (I, L) := by
  unfold f_X12_noDays_16 at h
  cases h
  exact E_zret (x := y0) rfl dX12_noDays_16
def f_X12_noDays (x0 : Int32) (I : MI) (L : ML) : Option (Bool) := Option.bind (f_X12_in x0 1 200 I L) fun v1 => if v1 = true then (f_X12_noDays_16 false I L) else (f_X12_noDays_16 true I L)
set_option maxRecDepth 100000 in
theorem S_X12_noDays {g : Gx} (x0 : Int32) (I : MI) (L : ML) (res : Bool) (h : f_X12_noDays x0 I L = some res) : E g 2 0 mX12_noDays 0 [(0, .int x0)] [] (I, L) (.inl (some (.int (bI res)))) (I, L) := by
  unfold f_X12_noDays at h
  refine E_iload_n 1 rfl dX12_noDays_0 rfl 0 rfl ?_
  refine E_iconst (v := 1) 2 rfl dX12_noDays_1 (by decide) ?_
  refine E_sipush (v := 200) 5 rfl dX12_noDays_2 (by decide) ?_
  obtain ⟨v1, hv1, h⟩ := Option.bind_eq_some_iff.mp h
  refine E_cS1 (As := [.int x0, .int 1, .int 200]) 8 rfl dX12_noDays_5 ck_X12_60 ss_X12_in rfl (by decide) (Nat.le_of_ble_eq_true rfl) (C_X12_in (g := g) hv1) rfl ?_
  refine E_if_neB 15 11 (by decide) rfl dX12_noDays_8 (fun c2 => ?_) (fun c2 => ?_)
  · rw [if_pos c2] at h
    refine E_iconst (v := 0) 16 rfl dX12_noDays_15 (by decide) ?_
    refine E_sub (lv' := []) [] rfl ?_
    exact S_X12_noDays_16 false I L _ h
  · rw [if_neg (by rw [c2]; decide)] at h
    refine E_iconst (v := 1) 12 rfl dX12_noDays_11 (by decide) ?_
    refine E_goto 16 (by decide) dX12_noDays_12 ?_
    refine E_sub (lv' := []) [] rfl ?_
    exact S_X12_noDays_16 true I L _ h
theorem C_X12_noDays {g : Gx} {x0 : Int32} {I : MI} {L : ML} {res : Bool} (h : f_X12_noDays x0 I L = some res) : Ent g 2 0 mX12_noDays [.int x0] (I, L) (.inl (some (.int (bI res)))) (I, L) := Ent_of (by decide +kernel) (Nat.le_of_ble_eq_true rfl) (S_X12_noDays x0 I L _ h)
def f_X12_due_30 (I : MI) (L : ML) : Option (Int64 × MI × ML) := some (0, I, L)
set_option maxRecDepth 100000 in
theorem S_X12_due_30 {g : Gx} (I : MI) (L : ML) (res : Int64 × MI × ML) (h : f_X12_due_30 I L = some res) : E g 9 0 mX12_due 30 [] [] (I, L) (.inl (some (.long res.1))) (res.2.1, res.2.2) := by
  unfold f_X12_due_30 at h
  refine E_lconst (v := 0) 31 rfl dX12_due_30 (by decide) ?_
  cases h
  exact E_lret rfl dX12_due_31
def f_X12_due (x1 : Int32) (x2 : Int32) (I : MI) (L : ML) : Option (Int64 × MI × ML) := Option.bind (pfI I 149 0 0) fun I1 => Option.bind (f_X12_noNoise x1 I1 L) fun v2 => Option.bind (f_X12_throwsIf v2 1 I1 L) fun w3 => if w3.1 = true then (f_X12_due_30 w3.2.1 w3.2.2) else (Option.bind (f_X12_noDays x2 w3.2.1 w3.2.2) fun v5 => Option.bind (f_X12_throwsIf v5 2 w3.2.1 w3.2.2) fun w6 => if w6.1 = true then (f_X12_due_30 w6.2.1 w6.2.2) else (Option.bind (f_X12_spreads w6.2.1 w6.2.2) fun w8 => Option.bind (f_X12_dueOf x1 x2 w8.1 w8.2) fun v9 => some (v9, w8.1, w8.2)))
set_option maxRecDepth 100000 in
theorem S_X12_due {g : Gx} (x1 : Int32) (x2 : Int32) (I : MI) (L : ML) (res : Int64 × MI × ML) (h : f_X12_due x1 x2 I L = some res) : E g 9 0 mX12_due 0 [(0, .ref 149), (1, .int x1), (2, .int x2)] [] (I, L) (.inl (some (.long res.1))) (res.2.1, res.2.2) := by
  unfold f_X12_due at h
  refine E_aload_n 1 rfl dX12_due_0 rfl 0 rfl ?_
  refine E_iconst (v := 0) 2 rfl dX12_due_1 (by decide) ?_
  obtain ⟨I1, hI1, h⟩ := Option.bind_eq_some_iff.mp h
  refine E_pfI 5 rfl dX12_due_2 shc_149 fl_X12_3 rfl hI1 ?_
  refine E_aload_n 6 rfl dX12_due_5 rfl 0 rfl ?_
  refine E_aload_n 7 rfl dX12_due_6 rfl 0 rfl ?_
  refine E_iload_n 8 rfl dX12_due_7 rfl 1 rfl ?_
  obtain ⟨v2, hv2, h⟩ := Option.bind_eq_some_iff.mp h
  refine E_cV1 (As := [.int x1]) 11 rfl dX12_due_8 shc_149 ck_X12_304 cv_X12_noNoise rfl (by decide) (Nat.le_of_ble_eq_true rfl) (C_X12_noNoise (g := g) hv2) rfl ?_
  refine E_iconst (v := 1) 12 rfl dX12_due_11 (by decide) ?_
  obtain ⟨w3, hw3, h⟩ := Option.bind_eq_some_iff.mp h
  refine E_cV1 (As := [.int (bI v2), .int 1]) 15 rfl dX12_due_12 shc_149 ck_X12_245 cv_X12_throwsIf rfl (by decide) (Nat.le_of_ble_eq_true rfl) (C_X12_throwsIf (g := g) hw3) rfl ?_
  refine E_if_neB 30 18 (by decide) rfl dX12_due_15 (fun c4 => ?_) (fun c4 => ?_)
  · rw [if_pos c4] at h
    refine E_sub (lv' := []) [] rfl ?_
    exact S_X12_due_30 w3.2.1 w3.2.2 _ h
  · rw [if_neg (by rw [c4]; decide)] at h
    refine E_aload_n 19 rfl dX12_due_18 rfl 0 rfl ?_
    refine E_iload_n 20 rfl dX12_due_19 rfl 2 rfl ?_
    obtain ⟨v5, hv5, h⟩ := Option.bind_eq_some_iff.mp h
    refine E_cS1 (As := [.int x2]) 23 rfl dX12_due_20 ck_X12_348 ss_X12_noDays rfl (by decide) (Nat.le_of_ble_eq_true rfl) (C_X12_noDays (g := g) hv5) rfl ?_
    refine E_iconst (v := 2) 24 rfl dX12_due_23 (by decide) ?_
    obtain ⟨w6, hw6, h⟩ := Option.bind_eq_some_iff.mp h
    refine E_cV1 (As := [.int (bI v5), .int 2]) 27 rfl dX12_due_24 shc_149 ck_X12_245 cv_X12_throwsIf rfl (by decide) (Nat.le_of_ble_eq_true rfl) (C_X12_throwsIf (g := g) hw6) rfl ?_
    refine E_if_eqB 32 30 (by decide) rfl dX12_due_27 (fun c7 => ?_) (fun c7 => ?_)
    · rw [if_neg (by rw [c7]; decide)] at h
      refine E_aload_n 33 rfl dX12_due_32 rfl 0 rfl ?_
      obtain ⟨w8, hw8, h⟩ := Option.bind_eq_some_iff.mp h
      refine E_cV0 (As := []) 36 rfl dX12_due_33 shc_149 ck_X12_298 cv_X12_spreads rfl (by decide) (Nat.le_of_ble_eq_true rfl) (C_X12_spreads (g := g) hw8) rfl ?_
      refine E_aload_n 37 rfl dX12_due_36 rfl 0 rfl ?_
      refine E_iload_n 38 rfl dX12_due_37 rfl 1 rfl ?_
      refine E_iload_n 39 rfl dX12_due_38 rfl 2 rfl ?_
      obtain ⟨v9, hv9, h⟩ := Option.bind_eq_some_iff.mp h
      refine E_cV1 (As := [.int x1, .int x2]) 42 rfl dX12_due_39 shc_149 ck_X12_351 cv_X12_dueOf rfl (by decide) (Nat.le_of_ble_eq_true rfl) (C_X12_dueOf (g := g) hv9) rfl ?_
      cases h
      exact E_lret rfl dX12_due_42
    · rw [if_pos c7] at h
      refine E_sub (lv' := []) [] rfl ?_
      exact S_X12_due_30 w6.2.1 w6.2.2 _ h
theorem C_X12_due {g : Gx} {x1 : Int32} {x2 : Int32} {I : MI} {L : ML} {res : Int64 × MI × ML} (h : f_X12_due x1 x2 I L = some res) : Ent g 9 0 mX12_due [.ref 149, .int x1, .int x2] (I, L) (.inl (some (.long res.1))) (res.2.1, res.2.2) := Ent_of (by decide +kernel) (Nat.le_of_ble_eq_true rfl) (S_X12_due x1 x2 I L _ h)
def f_X12_quiet_202 (k64 : Int32 → Int32 → Int32 → Int32 → Int64 → Int32 → MI → ML → Option (Int32 × MI × ML)) (x1 : Int32) (x2 : Int32) (x3 : Int32) (x4 : Int32) (x5 : Int64) (x7 : Int32) (I : MI) (L : ML) : Option (Int32 × MI × ML) := k64 x1 x2 x3 x4 x5 (x7 + 1) I L
set_option maxRecDepth 100000 in
theorem S_X12_quiet_202 {g : Gx} {k64 : Int32 → Int32 → Int32 → Int32 → Int64 → Int32 → MI → ML → Option (Int32 × MI × ML)} (hk64 : ∀ (x1z : Int32) (x2z : Int32) (x3z : Int32) (x4z : Int32) (x5z : Int64) (x7z : Int32) (I : MI) (L : ML) (res : Int32 × MI × ML), k64 x1z x2z x3z x4z x5z x7z I L = some res → E g 9 0 mX12_quiet 64 [(0, .ref 149), (1, .int x1z), (2, .int x2z), (3, .int x3z), (4, .int x4z), (5, .long x5z), (7, .int x7z)] [] (I, L) (.inl (some (.int res.1))) (res.2.1, res.2.2)) (x1 : Int32) (x2 : Int32) (x3 : Int32) (x4 : Int32) (x5 : Int64) (x7 : Int32) (I : MI) (L : ML) (res : Int32 × MI × ML) (h : f_X12_quiet_202 k64 x1 x2 x3 x4 x5 x7 I L = some res) : E g 9 0 mX12_quiet 202 [(0, .ref 149), (1, .int x1), (2, .int x2), (3, .int x3), (4, .int x4), (5, .long x5), (7, .int x7)] [] (I, L) (.inl (some (.int res.1))) (res.2.1, res.2.2) := by
  unfold f_X12_quiet_202 at h
  refine E_iinc (j := 6) (v := x7 + 1) (lv' := [(7, .int (x7 + 1)), (0, .ref 149), (1, .int x1), (2, .int x2), (3, .int x3), (4, .int x4), (5, .long x5)]) 205 rfl dX12_quiet_202 rfl rfl (Nat.le_of_ble_eq_true rfl) rfl ?_
  refine E_goto 64 (by decide) dX12_quiet_205 ?_
  refine E_sub (lv' := [(0, .ref 149), (1, .int x1), (2, .int x2), (3, .int x3), (4, .int x4), (5, .long x5), (7, .int (x7 + 1))]) [1, 2, 3, 4, 5, 6, 0] rfl ?_
  exact hk64 x1 x2 x3 x4 x5 (x7 + 1) I L _ h
def f_X12_quiet_194 (k64 : Int32 → Int32 → Int32 → Int32 → Int64 → Int32 → MI → ML → Option (Int32 × MI × ML)) (x1 : Int32) (x2 : Int32) (x3 : Int32) (x7 : Int32) (x8 : Int64) (I : MI) (L : ML) : Option (Int32 × MI × ML) := f_X12_quiet_202 k64 x1 x2 x3 x7 x8 x7 I L
set_option maxRecDepth 100000 in
theorem S_X12_quiet_194 {g : Gx} {k64 : Int32 → Int32 → Int32 → Int32 → Int64 → Int32 → MI → ML → Option (Int32 × MI × ML)} (hk64 : ∀ (x1z : Int32) (x2z : Int32) (x3z : Int32) (x4z : Int32) (x5z : Int64) (x7z : Int32) (I : MI) (L : ML) (res : Int32 × MI × ML), k64 x1z x2z x3z x4z x5z x7z I L = some res → E g 9 0 mX12_quiet 64 [(0, .ref 149), (1, .int x1z), (2, .int x2z), (3, .int x3z), (4, .int x4z), (5, .long x5z), (7, .int x7z)] [] (I, L) (.inl (some (.int res.1))) (res.2.1, res.2.2)) (x1 : Int32) (x2 : Int32) (x3 : Int32) (x7 : Int32) (x8 : Int64) (I : MI) (L : ML) (res : Int32 × MI × ML) (h : f_X12_quiet_194 k64 x1 x2 x3 x7 x8 I L = some res) : E g 9 0 mX12_quiet 194 [(0, .ref 149), (1, .int x1), (2, .int x2), (3, .int x3), (7, .int x7), (8, .long x8)] [] (I, L) (.inl (some (.int res.1))) (res.2.1, res.2.2) := by
  unfold f_X12_quiet_194 at h
  refine E_iload 196 rfl dX12_quiet_194 4 rfl ?_
  refine E_istore (lv' := [(4, .int x7), (0, .ref 149), (1, .int x1), (2, .int x2), (3, .int x3), (7, .int x7), (8, .long x8)]) 198 rfl dX12_quiet_196 (Nat.le_of_ble_eq_true rfl) rfl ?_
  refine E_lload 200 rfl dX12_quiet_198 6 rfl ?_
  refine E_lstore (lv' := [(5, .long x8), (4, .int x7), (0, .ref 149), (1, .int x1), (2, .int x2), (3, .int x3), (7, .int x7), (8, .long x8)]) 202 rfl dX12_quiet_200 (Nat.le_of_ble_eq_true rfl) rfl ?_
  refine E_sub (lv' := [(0, .ref 149), (1, .int x1), (2, .int x2), (3, .int x3), (4, .int x7), (5, .long x8), (7, .int x7)]) [2, 3, 4, 5, 1, 0, 6] rfl ?_
  exact S_X12_quiet_202 hk64 x1 x2 x3 x7 x8 x7 I L _ h
def f_X12_quiet_142 (k84 : Int32 → Int32 → Int32 → Int32 → Int64 → Int32 → Int64 → Int32 → Int32 → MI → ML → Option (Int32 × MI × ML)) (x1 : Int32) (x2 : Int32) (x3 : Int32) (x4 : Int32) (x5 : Int64) (x7 : Int32) (x8 : Int64) (x11 : Int32) (y0 : Int32) (y1 : Int32) (I : MI) (L : ML) : Option (Int32 × MI × ML) := k84 x1 x2 x3 x4 x5 x7 x8 (y0 + y1) (x11 + 1) I L
set_option maxRecDepth 100000 in
theorem S_X12_quiet_142 {g : Gx} {k84 : Int32 → Int32 → Int32 → Int32 → Int64 → Int32 → Int64 → Int32 → Int32 → MI → ML → Option (Int32 × MI × ML)} (hk84 : ∀ (x1z : Int32) (x2z : Int32) (x3z : Int32) (x4z : Int32) (x5z : Int64) (x7z : Int32) (x8z : Int64) (x10z : Int32) (x11z : Int32) (I : MI) (L : ML) (res : Int32 × MI × ML), k84 x1z x2z x3z x4z x5z x7z x8z x10z x11z I L = some res → E g 9 0 mX12_quiet 84 [(0, .ref 149), (1, .int x1z), (2, .int x2z), (3, .int x3z), (4, .int x4z), (5, .long x5z), (7, .int x7z), (8, .long x8z), (10, .int x10z), (11, .int x11z)] [] (I, L) (.inl (some (.int res.1))) (res.2.1, res.2.2)) (x1 : Int32) (x2 : Int32) (x3 : Int32) (x4 : Int32) (x5 : Int64) (x7 : Int32) (x8 : Int64) (x11 : Int32) (y0 : Int32) (y1 : Int32) (I : MI) (L : ML) (res : Int32 × MI × ML) (h : f_X12_quiet_142 k84 x1 x2 x3 x4 x5 x7 x8 x11 y0 y1 I L = some res) : E g 9 0 mX12_quiet 142 [(0, .ref 149), (1, .int x1), (2, .int x2), (3, .int x3), (4, .int x4), (5, .long x5), (7, .int x7), (8, .long x8), (11, .int x11)] [.int y1, .int y0] (I, L) (.inl (some (.int res.1))) (res.2.1, res.2.2) := by
  unfold f_X12_quiet_142 at h
  refine E_iadd 143 rfl dX12_quiet_142 ?_
  refine E_istore (lv' := [(10, .int (y0 + y1)), (0, .ref 149), (1, .int x1), (2, .int x2), (3, .int x3), (4, .int x4), (5, .long x5), (7, .int x7), (8, .long x8), (11, .int x11)]) 145 rfl dX12_quiet_143 (Nat.le_of_ble_eq_true rfl) rfl ?_
  refine E_iinc (j := 9) (v := x11 + 1) (lv' := [(11, .int (x11 + 1)), (10, .int (y0 + y1)), (0, .ref 149), (1, .int x1), (2, .int x2), (3, .int x3), (4, .int x4), (5, .long x5), (7, .int x7), (8, .long x8)]) 148 rfl dX12_quiet_145 rfl rfl (Nat.le_of_ble_eq_true rfl) rfl ?_
  refine E_goto 84 (by decide) dX12_quiet_148 ?_
  refine E_sub (lv' := [(0, .ref 149), (1, .int x1), (2, .int x2), (3, .int x3), (4, .int x4), (5, .long x5), (7, .int x7), (8, .long x8), (10, .int (y0 + y1)), (11, .int (x11 + 1))]) [2, 3, 4, 5, 6, 7, 8, 9, 1, 0] rfl ?_
  exact hk84 x1 x2 x3 x4 x5 x7 x8 (y0 + y1) (x11 + 1) I L _ h
def f_X12_quiet_116 (k84 : Int32 → Int32 → Int32 → Int32 → Int64 → Int32 → Int64 → Int32 → Int32 → MI → ML → Option (Int32 × MI × ML)) (x1 : Int32) (x2 : Int32) (x3 : Int32) (x4 : Int32) (x5 : Int64) (x7 : Int32) (x10 : Int32) (x11 : Int32) (y0 : Int64) (y1 : Int64) (I : MI) (L : ML) : Option (Int32 × MI × ML) := Option.bind (f_X12_has x7 x11 I L) fun v1 => if v1 = true then (f_X12_quiet_142 k84 x1 x2 x3 x4 x5 x7 (y0 + y1) x11 x10 0 I L) else (Option.bind (f_X12_atOf x11 x1 I L) fun v3 => f_X12_quiet_142 k84 x1 x2 x3 x4 x5 x7 (y0 + y1) x11 x10 v3 I L)
set_option maxRecDepth 100000 in
theorem S_X12_quiet_116 {g : Gx} {k84 : Int32 → Int32 → Int32 → Int32 → Int64 → Int32 → Int64 → Int32 → Int32 → MI → ML → Option (Int32 × MI × ML)} (hk84 : ∀ (x1z : Int32) (x2z : Int32) (x3z : Int32) (x4z : Int32) (x5z : Int64) (x7z : Int32) (x8z : Int64) (x10z : Int32) (x11z : Int32) (I : MI) (L : ML) (res : Int32 × MI × ML), k84 x1z x2z x3z x4z x5z x7z x8z x10z x11z I L = some res → E g 9 0 mX12_quiet 84 [(0, .ref 149), (1, .int x1z), (2, .int x2z), (3, .int x3z), (4, .int x4z), (5, .long x5z), (7, .int x7z), (8, .long x8z), (10, .int x10z), (11, .int x11z)] [] (I, L) (.inl (some (.int res.1))) (res.2.1, res.2.2)) (x1 : Int32) (x2 : Int32) (x3 : Int32) (x4 : Int32) (x5 : Int64) (x7 : Int32) (x10 : Int32) (x11 : Int32) (y0 : Int64) (y1 : Int64) (I : MI) (L : ML) (res : Int32 × MI × ML) (h : f_X12_quiet_116 k84 x1 x2 x3 x4 x5 x7 x10 x11 y0 y1 I L = some res) : E g 9 0 mX12_quiet 116 [(0, .ref 149), (1, .int x1), (2, .int x2), (3, .int x3), (4, .int x4), (5, .long x5), (7, .int x7), (10, .int x10), (11, .int x11)] [.long y1, .long y0] (I, L) (.inl (some (.int res.1))) (res.2.1, res.2.2) := by
  unfold f_X12_quiet_116 at h
  refine E_ladd 117 rfl dX12_quiet_116 ?_
  refine E_lstore (lv' := [(8, .long (y0 + y1)), (0, .ref 149), (1, .int x1), (2, .int x2), (3, .int x3), (4, .int x4), (5, .long x5), (7, .int x7), (10, .int x10), (11, .int x11)]) 119 rfl dX12_quiet_117 (Nat.le_of_ble_eq_true rfl) rfl ?_
  refine E_iload 121 rfl dX12_quiet_119 8 rfl ?_
  refine E_iload 123 rfl dX12_quiet_121 7 rfl ?_
  refine E_iload 125 rfl dX12_quiet_123 9 rfl ?_
  obtain ⟨v1, hv1, h⟩ := Option.bind_eq_some_iff.mp h
  refine E_cS1 (As := [.int x7, .int x11]) 128 rfl dX12_quiet_125 ck_X12_289 ss_X12_has rfl (by decide) (Nat.le_of_ble_eq_true rfl) (C_X12_has (g := g) hv1) rfl ?_
  refine E_if_eqB 135 131 (by decide) rfl dX12_quiet_128 (fun c2 => ?_) (fun c2 => ?_)
  · rw [if_neg (by rw [c2]; decide)] at h
    refine E_aload_n 136 rfl dX12_quiet_135 rfl 1 rfl ?_
    refine E_iload 138 rfl dX12_quiet_136 9 rfl ?_
    refine E_iload_n 139 rfl dX12_quiet_138 rfl 2 rfl ?_
    obtain ⟨v3, hv3, h⟩ := Option.bind_eq_some_iff.mp h
    refine E_cV1 (As := [.int x11, .int x1]) 142 rfl dX12_quiet_139 shc_149 ck_X12_269 cv_X12_atOf rfl (by decide) (Nat.le_of_ble_eq_true rfl) (C_X12_atOf (g := g) hv3) rfl ?_
    refine E_sub (lv' := [(0, .ref 149), (1, .int x1), (2, .int x2), (3, .int x3), (4, .int x4), (5, .long x5), (7, .int x7), (8, .long (y0 + y1)), (11, .int x11)]) [1, 2, 3, 4, 5, 6, 7, 0, 9] rfl ?_
    exact S_X12_quiet_142 hk84 x1 x2 x3 x4 x5 x7 (y0 + y1) x11 x10 v3 I L _ h
  · rw [if_pos c2] at h
    refine E_iconst (v := 0) 132 rfl dX12_quiet_131 (by decide) ?_
    refine E_goto 142 (by decide) dX12_quiet_132 ?_
    refine E_sub (lv' := [(0, .ref 149), (1, .int x1), (2, .int x2), (3, .int x3), (4, .int x4), (5, .long x5), (7, .int x7), (8, .long (y0 + y1)), (11, .int x11)]) [1, 2, 3, 4, 5, 6, 7, 0, 9] rfl ?_
    exact S_X12_quiet_142 hk84 x1 x2 x3 x4 x5 x7 (y0 + y1) x11 x10 0 I L _ h
def f_X12_quiet_84 (k64 : Int32 → Int32 → Int32 → Int32 → Int64 → Int32 → MI → ML → Option (Int32 × MI × ML)) : Nat → Int32 → Int32 → Int32 → Int32 → Int64 → Int32 → Int64 → Int32 → Int32 → MI → ML → Option (Int32 × MI × ML)
  | 0, _, _, _, _, _, _, _, _, _, _, _ => none
  | n + 1, x1, x2, x3, x4, x5, x7, x8, x10, x11, I, L => Option.bind (f_X12_noises I L) fun v1 => if v1 ≤ x11 then (if x2 < x10 then (f_X12_quiet_202 k64 x1 x2 x3 x4 x5 x7 I L) else (if x4 < 0 then (f_X12_quiet_194 k64 x1 x2 x3 x7 x8 I L) else (if x5 < x8 then (f_X12_quiet_202 k64 x1 x2 x3 x4 x5 x7 I L) else (if x8 = x5 then (Option.bind (f_J6_bitCount_0f7a4 x7 I L) fun v7 => Option.bind (f_J6_bitCount_0f7a4 x4 I L) fun v8 => if v7 < v8 then (f_X12_quiet_194 k64 x1 x2 x3 x7 x8 I L) else (f_X12_quiet_202 k64 x1 x2 x3 x4 x5 x7 I L)) else (f_X12_quiet_194 k64 x1 x2 x3 x7 x8 I L))))) else (Option.bind (f_X12_has x7 x11 I L) fun v10 => if v10 = true then (Option.bind (f_X12_dueOf x11 x3 I L) fun v12 => f_X12_quiet_116 (f_X12_quiet_84 k64 n) x1 x2 x3 x4 x5 x7 x10 x11 x8 v12 I L) else (f_X12_quiet_116 (f_X12_quiet_84 k64 n) x1 x2 x3 x4 x5 x7 x10 x11 x8 0 I L))
set_option maxRecDepth 100000 in
theorem S_X12_quiet_84 {g : Gx} {k64 : Int32 → Int32 → Int32 → Int32 → Int64 → Int32 → MI → ML → Option (Int32 × MI × ML)} (hk64 : ∀ (x1z : Int32) (x2z : Int32) (x3z : Int32) (x4z : Int32) (x5z : Int64) (x7z : Int32) (I : MI) (L : ML) (res : Int32 × MI × ML), k64 x1z x2z x3z x4z x5z x7z I L = some res → E g 9 0 mX12_quiet 64 [(0, .ref 149), (1, .int x1z), (2, .int x2z), (3, .int x3z), (4, .int x4z), (5, .long x5z), (7, .int x7z)] [] (I, L) (.inl (some (.int res.1))) (res.2.1, res.2.2)) : ∀ (n : Nat) (x1 : Int32) (x2 : Int32) (x3 : Int32) (x4 : Int32) (x5 : Int64) (x7 : Int32) (x8 : Int64) (x10 : Int32) (x11 : Int32) (I : MI) (L : ML) (res : Int32 × MI × ML), f_X12_quiet_84 k64 n x1 x2 x3 x4 x5 x7 x8 x10 x11 I L = some res → E g 9 0 mX12_quiet 84 [(0, .ref 149), (1, .int x1), (2, .int x2), (3, .int x3), (4, .int x4), (5, .long x5), (7, .int x7), (8, .long x8), (10, .int x10), (11, .int x11)] [] (I, L) (.inl (some (.int res.1))) (res.2.1, res.2.2) := by
  intro n
  induction n with
  | zero =>
    intros
    rename_i h
    cases h
  | succ n ih =>
    intro x1 x2 x3 x4 x5 x7 x8 x10 x11 I L res h
    rw [f_X12_quiet_84] at h
    refine E_iload 86 rfl dX12_quiet_84 9 rfl ?_
    refine E_aload_n 87 rfl dX12_quiet_86 rfl 0 rfl ?_
    obtain ⟨v1, hv1, h⟩ := Option.bind_eq_some_iff.mp h
    refine E_cV1 (As := []) 90 rfl dX12_quiet_87 shc_149 ck_X12_67 cv_X12_noises rfl (by decide) (Nat.le_of_ble_eq_true rfl) (C_X12_noises (g := g) hv1) rfl ?_
    refine E_icmp_ge 151 93 (by decide) rfl dX12_quiet_90 (fun c2 => ?_) (fun c2 => ?_)
    · rw [if_pos c2] at h
      refine E_iload 153 rfl dX12_quiet_151 8 rfl ?_
      refine E_iload_n 154 rfl dX12_quiet_153 rfl 2 rfl ?_
      refine E_icmp_gt 202 157 (by decide) rfl dX12_quiet_154 (fun c3 => ?_) (fun c3 => ?_)
      · rw [if_pos c3] at h
        refine E_sub (lv' := [(0, .ref 149), (1, .int x1), (2, .int x2), (3, .int x3), (4, .int x4), (5, .long x5), (7, .int x7)]) [0, 1, 2, 3, 4, 5, 6] rfl ?_
        exact S_X12_quiet_202 hk64 x1 x2 x3 x4 x5 x7 I L _ h
      · rw [if_neg c3] at h
        refine E_iload 159 rfl dX12_quiet_157 4 rfl ?_
        refine E_if_lt 194 162 (by decide) rfl dX12_quiet_159 (fun c4 => ?_) (fun c4 => ?_)
        · rw [if_pos c4] at h
          refine E_sub (lv' := [(0, .ref 149), (1, .int x1), (2, .int x2), (3, .int x3), (7, .int x7), (8, .long x8)]) [0, 1, 2, 3, 6, 7] rfl ?_
          exact S_X12_quiet_194 hk64 x1 x2 x3 x7 x8 I L _ h
        · rw [if_neg c4] at h
          refine E_lload 164 rfl dX12_quiet_162 7 rfl ?_
          refine E_lload 166 rfl dX12_quiet_164 5 rfl ?_
          refine E_lc_gt 202 167 170 (by decide) rfl rfl dX12_quiet_166 dX12_quiet_167 (fun c5 => ?_) (fun c5 => ?_)
          · rw [if_pos c5] at h
            refine E_sub (lv' := [(0, .ref 149), (1, .int x1), (2, .int x2), (3, .int x3), (4, .int x4), (5, .long x5), (7, .int x7)]) [0, 1, 2, 3, 4, 5, 6] rfl ?_
            exact S_X12_quiet_202 hk64 x1 x2 x3 x4 x5 x7 I L _ h
          · rw [if_neg c5] at h
            refine E_lload 172 rfl dX12_quiet_170 7 rfl ?_
            refine E_lload 174 rfl dX12_quiet_172 5 rfl ?_
            refine E_lc_ne 194 175 178 (by decide) rfl rfl dX12_quiet_174 dX12_quiet_175 (fun c6 => ?_) (fun c6 => ?_)
            · rw [if_neg c6] at h
              refine E_sub (lv' := [(0, .ref 149), (1, .int x1), (2, .int x2), (3, .int x3), (7, .int x7), (8, .long x8)]) [0, 1, 2, 3, 6, 7] rfl ?_
              exact S_X12_quiet_194 hk64 x1 x2 x3 x7 x8 I L _ h
            · rw [if_pos c6] at h
              refine E_iload 180 rfl dX12_quiet_178 6 rfl ?_
              obtain ⟨v7, hv7, h⟩ := Option.bind_eq_some_iff.mp h
              refine E_cS1 (As := [.int x7]) 183 rfl dX12_quiet_180 ck_X12_339 ss_J6_bitCount_0f7a4 rfl (by decide) (Nat.le_of_ble_eq_true rfl) (C_J6_bitCount_0f7a4 (g := g) hv7) rfl ?_
              refine E_iload 185 rfl dX12_quiet_183 4 rfl ?_
              obtain ⟨v8, hv8, h⟩ := Option.bind_eq_some_iff.mp h
              refine E_cS1 (As := [.int x4]) 188 rfl dX12_quiet_185 ck_X12_339 ss_J6_bitCount_0f7a4 rfl (by decide) (Nat.le_of_ble_eq_true rfl) (C_J6_bitCount_0f7a4 (g := g) hv8) rfl ?_
              refine E_icmp_lt 194 191 (by decide) rfl dX12_quiet_188 (fun c9 => ?_) (fun c9 => ?_)
              · rw [if_pos c9] at h
                refine E_sub (lv' := [(0, .ref 149), (1, .int x1), (2, .int x2), (3, .int x3), (7, .int x7), (8, .long x8)]) [0, 1, 2, 3, 6, 7] rfl ?_
                exact S_X12_quiet_194 hk64 x1 x2 x3 x7 x8 I L _ h
              · rw [if_neg c9] at h
                refine E_goto 202 (by decide) dX12_quiet_191 ?_
                refine E_sub (lv' := [(0, .ref 149), (1, .int x1), (2, .int x2), (3, .int x3), (4, .int x4), (5, .long x5), (7, .int x7)]) [0, 1, 2, 3, 4, 5, 6] rfl ?_
                exact S_X12_quiet_202 hk64 x1 x2 x3 x4 x5 x7 I L _ h
    · rw [if_neg c2] at h
      refine E_lload 95 rfl dX12_quiet_93 7 rfl ?_
      refine E_iload 97 rfl dX12_quiet_95 6 rfl ?_
      refine E_iload 99 rfl dX12_quiet_97 9 rfl ?_
      obtain ⟨v10, hv10, h⟩ := Option.bind_eq_some_iff.mp h
      refine E_cS1 (As := [.int x7, .int x11]) 102 rfl dX12_quiet_99 ck_X12_289 ss_X12_has rfl (by decide) (Nat.le_of_ble_eq_true rfl) (C_X12_has (g := g) hv10) rfl ?_
      refine E_if_eqB 115 105 (by decide) rfl dX12_quiet_102 (fun c11 => ?_) (fun c11 => ?_)
      · rw [if_neg (by rw [c11]; decide)] at h
        refine E_lconst (v := 0) 116 rfl dX12_quiet_115 (by decide) ?_
        refine E_sub (lv' := [(0, .ref 149), (1, .int x1), (2, .int x2), (3, .int x3), (4, .int x4), (5, .long x5), (7, .int x7), (10, .int x10), (11, .int x11)]) [0, 1, 2, 3, 4, 5, 6, 8, 9] rfl ?_
        exact S_X12_quiet_116 ih x1 x2 x3 x4 x5 x7 x10 x11 x8 0 I L _ h
      · rw [if_pos c11] at h
        refine E_aload_n 106 rfl dX12_quiet_105 rfl 0 rfl ?_
        refine E_iload 108 rfl dX12_quiet_106 9 rfl ?_
        refine E_iload_n 109 rfl dX12_quiet_108 rfl 3 rfl ?_
        obtain ⟨v12, hv12, h⟩ := Option.bind_eq_some_iff.mp h
        refine E_cV1 (As := [.int x11, .int x3]) 112 rfl dX12_quiet_109 shc_149 ck_X12_351 cv_X12_dueOf rfl (by decide) (Nat.le_of_ble_eq_true rfl) (C_X12_dueOf (g := g) hv12) rfl ?_
        refine E_goto 116 (by decide) dX12_quiet_112 ?_
        refine E_sub (lv' := [(0, .ref 149), (1, .int x1), (2, .int x2), (3, .int x3), (4, .int x4), (5, .long x5), (7, .int x7), (10, .int x10), (11, .int x11)]) [0, 1, 2, 3, 4, 5, 6, 8, 9] rfl ?_
        exact S_X12_quiet_116 ih x1 x2 x3 x4 x5 x7 x10 x11 x8 v12 I L _ h
def f_X12_quiet_64 : Nat → Int32 → Int32 → Int32 → Int32 → Int64 → Int32 → MI → ML → Option (Int32 × MI × ML)
  | 0, _, _, _, _, _, _, _, _ => none
  | n + 1, x1, x2, x3, x4, x5, x7, I, L => Option.bind (f_X12_noises I L) fun v1 => if (1 <<< (v1 &&& 31)) ≤ x7 then (some (x4, I, L)) else (f_X12_quiet_84 (f_X12_quiet_64 n) FU x1 x2 x3 x4 x5 x7 0 0 0 I L)
set_option maxRecDepth 100000 in
theorem S_X12_quiet_64 {g : Gx} : ∀ (n : Nat) (x1 : Int32) (x2 : Int32) (x3 : Int32) (x4 : Int32) (x5 : Int64) (x7 : Int32) (I : MI) (L : ML) (res : Int32 × MI × ML), f_X12_quiet_64 n x1 x2 x3 x4 x5 x7 I L = some res → E g 9 0 mX12_quiet 64 [(0, .ref 149), (1, .int x1), (2, .int x2), (3, .int x3), (4, .int x4), (5, .long x5), (7, .int x7)] [] (I, L) (.inl (some (.int res.1))) (res.2.1, res.2.2) := by
  intro n
  induction n with
  | zero =>
    intros
    rename_i h
    cases h
  | succ n ih =>
    intro x1 x2 x3 x4 x5 x7 I L res h
    rw [f_X12_quiet_64] at h
    refine E_iload 66 rfl dX12_quiet_64 6 rfl ?_
    refine E_iconst (v := 1) 67 rfl dX12_quiet_66 (by decide) ?_
    refine E_aload_n 68 rfl dX12_quiet_67 rfl 0 rfl ?_
    obtain ⟨v1, hv1, h⟩ := Option.bind_eq_some_iff.mp h
    refine E_cV1 (As := []) 71 rfl dX12_quiet_68 shc_149 ck_X12_67 cv_X12_noises rfl (by decide) (Nat.le_of_ble_eq_true rfl) (C_X12_noises (g := g) hv1) rfl ?_
    refine E_ishl 72 rfl dX12_quiet_71 ?_
    refine E_icmp_ge 208 75 (by decide) rfl dX12_quiet_72 (fun c2 => ?_) (fun c2 => ?_)
    · rw [if_pos c2] at h
      refine E_iload 210 rfl dX12_quiet_208 4 rfl ?_
      cases h
      exact E_iret rfl dX12_quiet_210
    · rw [if_neg c2] at h
      refine E_lconst (v := 0) 76 rfl dX12_quiet_75 (by decide) ?_
      refine E_lstore (lv' := [(8, .long 0), (0, .ref 149), (1, .int x1), (2, .int x2), (3, .int x3), (4, .int x4), (5, .long x5), (7, .int x7)]) 78 rfl dX12_quiet_76 (Nat.le_of_ble_eq_true rfl) rfl ?_
      refine E_iconst (v := 0) 79 rfl dX12_quiet_78 (by decide) ?_
      refine E_istore (lv' := [(10, .int 0), (8, .long 0), (0, .ref 149), (1, .int x1), (2, .int x2), (3, .int x3), (4, .int x4), (5, .long x5), (7, .int x7)]) 81 rfl dX12_quiet_79 (Nat.le_of_ble_eq_true rfl) rfl ?_
      refine E_iconst (v := 0) 82 rfl dX12_quiet_81 (by decide) ?_
      refine E_istore (lv' := [(11, .int 0), (10, .int 0), (8, .long 0), (0, .ref 149), (1, .int x1), (2, .int x2), (3, .int x3), (4, .int x4), (5, .long x5), (7, .int x7)]) 84 rfl dX12_quiet_82 (Nat.le_of_ble_eq_true rfl) rfl ?_
      refine E_sub (lv' := [(0, .ref 149), (1, .int x1), (2, .int x2), (3, .int x3), (4, .int x4), (5, .long x5), (7, .int x7), (8, .long 0), (10, .int 0), (11, .int 0)]) [3, 4, 5, 6, 7, 8, 9, 2, 1, 0] rfl ?_
      exact S_X12_quiet_84 ih FU x1 x2 x3 x4 x5 x7 0 0 0 I L _ h
def f_X12_quiet_49 (I : MI) (L : ML) : Option (Int32 × MI × ML) := some (0, I, L)
set_option maxRecDepth 100000 in
theorem S_X12_quiet_49 {g : Gx} (I : MI) (L : ML) (res : Int32 × MI × ML) (h : f_X12_quiet_49 I L = some res) : E g 9 0 mX12_quiet 49 [] [] (I, L) (.inl (some (.int res.1))) (res.2.1, res.2.2) := by
  unfold f_X12_quiet_49 at h
  refine E_iconst (v := 0) 50 rfl dX12_quiet_49 (by decide) ?_
  cases h
  exact E_iret rfl dX12_quiet_50
def f_X12_quiet_42 (x1 : Int32) (x2 : Int32) (x3 : Int32) (y1 : Bool) (I : MI) (L : ML) : Option (Int32 × MI × ML) := Option.bind (f_X12_throwsIf y1 2 I L) fun w1 => if w1.1 = true then (f_X12_quiet_49 w1.2.1 w1.2.2) else (Option.bind (f_X12_spreads w1.2.1 w1.2.2) fun w3 => f_X12_quiet_64 FU x1 x2 x3 ((-1)) 0 0 w3.1 w3.2)
set_option maxRecDepth 100000 in
theorem S_X12_quiet_42 {g : Gx} (x1 : Int32) (x2 : Int32) (x3 : Int32) (y1 : Bool) (I : MI) (L : ML) (res : Int32 × MI × ML) (h : f_X12_quiet_42 x1 x2 x3 y1 I L = some res) : E g 9 0 mX12_quiet 42 [(0, .ref 149), (1, .int x1), (2, .int x2), (3, .int x3)] [.int (bI y1), .ref 149] (I, L) (.inl (some (.int res.1))) (res.2.1, res.2.2) := by
  unfold f_X12_quiet_42 at h
  refine E_iconst (v := 2) 43 rfl dX12_quiet_42 (by decide) ?_
  obtain ⟨w1, hw1, h⟩ := Option.bind_eq_some_iff.mp h
  refine E_cV1 (As := [.int (bI y1), .int 2]) 46 rfl dX12_quiet_43 shc_149 ck_X12_245 cv_X12_throwsIf rfl (by decide) (Nat.le_of_ble_eq_true rfl) (C_X12_throwsIf (g := g) hw1) rfl ?_
  refine E_if_eqB 51 49 (by decide) rfl dX12_quiet_46 (fun c2 => ?_) (fun c2 => ?_)
  · rw [if_neg (by rw [c2]; decide)] at h
    refine E_aload_n 52 rfl dX12_quiet_51 rfl 0 rfl ?_
    obtain ⟨w3, hw3, h⟩ := Option.bind_eq_some_iff.mp h
    refine E_cV0 (As := []) 55 rfl dX12_quiet_52 shc_149 ck_X12_298 cv_X12_spreads rfl (by decide) (Nat.le_of_ble_eq_true rfl) (C_X12_spreads (g := g) hw3) rfl ?_
    refine E_iconst (v := (-1)) 56 rfl dX12_quiet_55 (by decide) ?_
    refine E_istore (lv' := [(4, .int ((-1))), (0, .ref 149), (1, .int x1), (2, .int x2), (3, .int x3)]) 58 rfl dX12_quiet_56 (Nat.le_of_ble_eq_true rfl) rfl ?_
    refine E_lconst (v := 0) 59 rfl dX12_quiet_58 (by decide) ?_
    refine E_lstore (lv' := [(5, .long 0), (4, .int ((-1))), (0, .ref 149), (1, .int x1), (2, .int x2), (3, .int x3)]) 61 rfl dX12_quiet_59 (Nat.le_of_ble_eq_true rfl) rfl ?_
    refine E_iconst (v := 0) 62 rfl dX12_quiet_61 (by decide) ?_
    refine E_istore (lv' := [(7, .int 0), (5, .long 0), (4, .int ((-1))), (0, .ref 149), (1, .int x1), (2, .int x2), (3, .int x3)]) 64 rfl dX12_quiet_62 (Nat.le_of_ble_eq_true rfl) rfl ?_
    refine E_sub (lv' := [(0, .ref 149), (1, .int x1), (2, .int x2), (3, .int x3), (4, .int ((-1))), (5, .long 0), (7, .int 0)]) [3, 4, 5, 6, 2, 1, 0] rfl ?_
    exact S_X12_quiet_64 FU x1 x2 x3 ((-1)) 0 0 w3.1 w3.2 _ h
  · rw [if_pos c2] at h
    refine E_sub (lv' := []) [] rfl ?_
    exact S_X12_quiet_49 w1.2.1 w1.2.2 _ h
def f_X12_quiet_37 (x1 : Int32) (x2 : Int32) (x3 : Int32) (I : MI) (L : ML) : Option (Int32 × MI × ML) := f_X12_quiet_42 x1 x2 x3 true I L
set_option maxRecDepth 100000 in
theorem S_X12_quiet_37 {g : Gx} (x1 : Int32) (x2 : Int32) (x3 : Int32) (I : MI) (L : ML) (res : Int32 × MI × ML) (h : f_X12_quiet_37 x1 x2 x3 I L = some res) : E g 9 0 mX12_quiet 37 [(0, .ref 149), (1, .int x1), (2, .int x2), (3, .int x3)] [.ref 149] (I, L) (.inl (some (.int res.1))) (res.2.1, res.2.2) := by
  unfold f_X12_quiet_37 at h
  refine E_iconst (v := 1) 38 rfl dX12_quiet_37 (by decide) ?_
  refine E_goto 42 (by decide) dX12_quiet_38 ?_
  refine E_sub (lv' := [(0, .ref 149), (1, .int x1), (2, .int x2), (3, .int x3)]) [0, 1, 2, 3] rfl ?_
  exact S_X12_quiet_42 x1 x2 x3 true I L _ h
def f_X12_quiet (x1 : Int32) (x2 : Int32) (x3 : Int32) (I : MI) (L : ML) : Option (Int32 × MI × ML) := Option.bind (pfI I 149 0 0) fun I1 => Option.bind (f_X12_noRoom x1 I1 L) fun v2 => Option.bind (f_X12_throwsIf v2 1 I1 L) fun w3 => if w3.1 = true then (f_X12_quiet_49 w3.2.1 w3.2.2) else (Option.bind (f_X12_in x2 0 999 w3.2.1 w3.2.2) fun v5 => if v5 = true then (Option.bind (f_X12_noDays x3 w3.2.1 w3.2.2) fun v7 => if v7 = true then (f_X12_quiet_37 x1 x2 x3 w3.2.1 w3.2.2) else (f_X12_quiet_42 x1 x2 x3 false w3.2.1 w3.2.2)) else (f_X12_quiet_37 x1 x2 x3 w3.2.1 w3.2.2))
set_option maxRecDepth 100000 in
theorem S_X12_quiet {g : Gx} (x1 : Int32) (x2 : Int32) (x3 : Int32) (I : MI) (L : ML) (res : Int32 × MI × ML) (h : f_X12_quiet x1 x2 x3 I L = some res) : E g 9 0 mX12_quiet 0 [(0, .ref 149), (1, .int x1), (2, .int x2), (3, .int x3)] [] (I, L) (.inl (some (.int res.1))) (res.2.1, res.2.2) := by
  unfold f_X12_quiet at h
  refine E_aload_n 1 rfl dX12_quiet_0 rfl 0 rfl ?_
  refine E_iconst (v := 0) 2 rfl dX12_quiet_1 (by decide) ?_
  obtain ⟨I1, hI1, h⟩ := Option.bind_eq_some_iff.mp h
  refine E_pfI 5 rfl dX12_quiet_2 shc_149 fl_X12_3 rfl hI1 ?_
  refine E_aload_n 6 rfl dX12_quiet_5 rfl 0 rfl ?_
  refine E_aload_n 7 rfl dX12_quiet_6 rfl 0 rfl ?_
  refine E_iload_n 8 rfl dX12_quiet_7 rfl 1 rfl ?_
  obtain ⟨v2, hv2, h⟩ := Option.bind_eq_some_iff.mp h
  refine E_cV1 (As := [.int x1]) 11 rfl dX12_quiet_8 shc_149 ck_X12_292 cv_X12_noRoom rfl (by decide) (Nat.le_of_ble_eq_true rfl) (C_X12_noRoom (g := g) hv2) rfl ?_
  refine E_iconst (v := 1) 12 rfl dX12_quiet_11 (by decide) ?_
  obtain ⟨w3, hw3, h⟩ := Option.bind_eq_some_iff.mp h
  refine E_cV1 (As := [.int (bI v2), .int 1]) 15 rfl dX12_quiet_12 shc_149 ck_X12_245 cv_X12_throwsIf rfl (by decide) (Nat.le_of_ble_eq_true rfl) (C_X12_throwsIf (g := g) hw3) rfl ?_
  refine E_if_neB 49 18 (by decide) rfl dX12_quiet_15 (fun c4 => ?_) (fun c4 => ?_)
  · rw [if_pos c4] at h
    refine E_sub (lv' := []) [] rfl ?_
    exact S_X12_quiet_49 w3.2.1 w3.2.2 _ h
  · rw [if_neg (by rw [c4]; decide)] at h
    refine E_aload_n 19 rfl dX12_quiet_18 rfl 0 rfl ?_
    refine E_iload_n 20 rfl dX12_quiet_19 rfl 2 rfl ?_
    refine E_iconst (v := 0) 21 rfl dX12_quiet_20 (by decide) ?_
    refine E_sipush (v := 999) 24 rfl dX12_quiet_21 (by decide) ?_
    obtain ⟨v5, hv5, h⟩ := Option.bind_eq_some_iff.mp h
    refine E_cS1 (As := [.int x2, .int 0, .int 999]) 27 rfl dX12_quiet_24 ck_X12_60 ss_X12_in rfl (by decide) (Nat.le_of_ble_eq_true rfl) (C_X12_in (g := g) hv5) rfl ?_
    refine E_if_eqB 37 30 (by decide) rfl dX12_quiet_27 (fun c6 => ?_) (fun c6 => ?_)
    · rw [if_neg (by rw [c6]; decide)] at h
      refine E_sub (lv' := [(0, .ref 149), (1, .int x1), (2, .int x2), (3, .int x3)]) [0, 1, 2, 3] rfl ?_
      exact S_X12_quiet_37 x1 x2 x3 w3.2.1 w3.2.2 _ h
    · rw [if_pos c6] at h
      refine E_iload_n 31 rfl dX12_quiet_30 rfl 3 rfl ?_
      obtain ⟨v7, hv7, h⟩ := Option.bind_eq_some_iff.mp h
      refine E_cS1 (As := [.int x3]) 34 rfl dX12_quiet_31 ck_X12_348 ss_X12_noDays rfl (by decide) (Nat.le_of_ble_eq_true rfl) (C_X12_noDays (g := g) hv7) rfl ?_
      refine E_if_eqB 41 37 (by decide) rfl dX12_quiet_34 (fun c8 => ?_) (fun c8 => ?_)
      · rw [if_neg (by rw [c8]; decide)] at h
        refine E_iconst (v := 0) 42 rfl dX12_quiet_41 (by decide) ?_
        refine E_sub (lv' := [(0, .ref 149), (1, .int x1), (2, .int x2), (3, .int x3)]) [0, 1, 2, 3] rfl ?_
        exact S_X12_quiet_42 x1 x2 x3 false w3.2.1 w3.2.2 _ h
      · rw [if_pos c8] at h
        refine E_sub (lv' := [(0, .ref 149), (1, .int x1), (2, .int x2), (3, .int x3)]) [0, 1, 2, 3] rfl ?_
        exact S_X12_quiet_37 x1 x2 x3 w3.2.1 w3.2.2 _ h
theorem C_X12_quiet {g : Gx} {x1 : Int32} {x2 : Int32} {x3 : Int32} {I : MI} {L : ML} {res : Int32 × MI × ML} (h : f_X12_quiet x1 x2 x3 I L = some res) : Ent g 9 0 mX12_quiet [.ref 149, .int x1, .int x2, .int x3] (I, L) (.inl (some (.int res.1))) (res.2.1, res.2.2) := Ent_of (by decide +kernel) (Nat.le_of_ble_eq_true rfl) (S_X12_quiet x1 x2 x3 I L _ h)
def f_X12_isNear_78 (k14 : Int32 → Int32 → Bool → Int32 → MI → ML → Option (Bool)) (x1 : Int32) (x2 : Int32) (x4 : Int32) (y0 : Bool) (I : MI) (L : ML) : Option (Bool) := k14 x1 x2 y0 (x4 + 1) I L
set_option maxRecDepth 100000 in
theorem S_X12_isNear_78 {g : Gx} {k14 : Int32 → Int32 → Bool → Int32 → MI → ML → Option (Bool)} (hk14 : ∀ (x1z : Int32) (x2z : Int32) (x3z : Bool) (x4z : Int32) (I : MI) (L : ML) (res : Bool), k14 x1z x2z x3z x4z I L = some res → E g 2 0 mX12_isNear 14 [(0, .ref 149), (1, .int x1z), (2, .int x2z), (3, .int (bI x3z)), (4, .int x4z)] [] (I, L) (.inl (some (.int (bI res)))) (I, L)) (x1 : Int32) (x2 : Int32) (x4 : Int32) (y0 : Bool) (I : MI) (L : ML) (res : Bool) (h : f_X12_isNear_78 k14 x1 x2 x4 y0 I L = some res) : E g 2 0 mX12_isNear 78 [(0, .ref 149), (1, .int x1), (2, .int x2), (4, .int x4)] [.int (bI y0)] (I, L) (.inl (some (.int (bI res)))) (I, L) := by
  unfold f_X12_isNear_78 at h
  refine E_istore_n (lv' := [(3, .int (bI y0)), (0, .ref 149), (1, .int x1), (2, .int x2), (4, .int x4)]) 79 rfl dX12_isNear_78 rfl (Nat.le_of_ble_eq_true rfl) rfl ?_
  refine E_iinc (j := 4) (v := x4 + 1) (lv' := [(4, .int (x4 + 1)), (3, .int (bI y0)), (0, .ref 149), (1, .int x1), (2, .int x2)]) 82 rfl dX12_isNear_79 rfl rfl (Nat.le_of_ble_eq_true rfl) rfl ?_
  refine E_goto 14 (by decide) dX12_isNear_82 ?_
  refine E_sub (lv' := [(0, .ref 149), (1, .int x1), (2, .int x2), (3, .int (bI y0)), (4, .int (x4 + 1))]) [2, 3, 4, 1, 0] rfl ?_
  exact hk14 x1 x2 y0 (x4 + 1) I L _ h
def f_X12_isNear_77 (k14 : Int32 → Int32 → Bool → Int32 → MI → ML → Option (Bool)) (x1 : Int32) (x2 : Int32) (x4 : Int32) (I : MI) (L : ML) : Option (Bool) := f_X12_isNear_78 k14 x1 x2 x4 false I L
set_option maxRecDepth 100000 in
theorem S_X12_isNear_77 {g : Gx} {k14 : Int32 → Int32 → Bool → Int32 → MI → ML → Option (Bool)} (hk14 : ∀ (x1z : Int32) (x2z : Int32) (x3z : Bool) (x4z : Int32) (I : MI) (L : ML) (res : Bool), k14 x1z x2z x3z x4z I L = some res → E g 2 0 mX12_isNear 14 [(0, .ref 149), (1, .int x1z), (2, .int x2z), (3, .int (bI x3z)), (4, .int x4z)] [] (I, L) (.inl (some (.int (bI res)))) (I, L)) (x1 : Int32) (x2 : Int32) (x4 : Int32) (I : MI) (L : ML) (res : Bool) (h : f_X12_isNear_77 k14 x1 x2 x4 I L = some res) : E g 2 0 mX12_isNear 77 [(0, .ref 149), (1, .int x1), (2, .int x2), (4, .int x4)] [] (I, L) (.inl (some (.int (bI res)))) (I, L) := by
  unfold f_X12_isNear_77 at h
  refine E_iconst (v := 0) 78 rfl dX12_isNear_77 (by decide) ?_
  refine E_sub (lv' := [(0, .ref 149), (1, .int x1), (2, .int x2), (4, .int x4)]) [0, 1, 2, 3] rfl ?_
  exact S_X12_isNear_78 hk14 x1 x2 x4 false I L _ h
def f_X12_isNear_73 (k14 : Int32 → Int32 → Bool → Int32 → MI → ML → Option (Bool)) (x1 : Int32) (x2 : Int32) (x4 : Int32) (I : MI) (L : ML) : Option (Bool) := f_X12_isNear_78 k14 x1 x2 x4 true I L
set_option maxRecDepth 100000 in
theorem S_X12_isNear_73 {g : Gx} {k14 : Int32 → Int32 → Bool → Int32 → MI → ML → Option (Bool)} (hk14 : ∀ (x1z : Int32) (x2z : Int32) (x3z : Bool) (x4z : Int32) (I : MI) (L : ML) (res : Bool), k14 x1z x2z x3z x4z I L = some res → E g 2 0 mX12_isNear 14 [(0, .ref 149), (1, .int x1z), (2, .int x2z), (3, .int (bI x3z)), (4, .int x4z)] [] (I, L) (.inl (some (.int (bI res)))) (I, L)) (x1 : Int32) (x2 : Int32) (x4 : Int32) (I : MI) (L : ML) (res : Bool) (h : f_X12_isNear_73 k14 x1 x2 x4 I L = some res) : E g 2 0 mX12_isNear 73 [(0, .ref 149), (1, .int x1), (2, .int x2), (4, .int x4)] [] (I, L) (.inl (some (.int (bI res)))) (I, L) := by
  unfold f_X12_isNear_73 at h
  refine E_iconst (v := 1) 74 rfl dX12_isNear_73 (by decide) ?_
  refine E_goto 78 (by decide) dX12_isNear_74 ?_
  refine E_sub (lv' := [(0, .ref 149), (1, .int x1), (2, .int x2), (4, .int x4)]) [0, 1, 2, 3] rfl ?_
  exact S_X12_isNear_78 hk14 x1 x2 x4 true I L _ h
def f_X12_isNear_51 (k14 : Int32 → Int32 → Bool → Int32 → MI → ML → Option (Bool)) (x1 : Int32) (x2 : Int32) (x4 : Int32) (I : MI) (L : ML) : Option (Bool) := Option.bind (f_X12_ofDoor x4 0 I L) fun v1 => if v1 = x2 then (Option.bind (f_X12_ofDoor x4 1 I L) fun v3 => if v3 = x1 then (f_X12_isNear_73 k14 x1 x2 x4 I L) else (f_X12_isNear_77 k14 x1 x2 x4 I L)) else (f_X12_isNear_77 k14 x1 x2 x4 I L)
set_option maxRecDepth 100000 in
theorem S_X12_isNear_51 {g : Gx} {k14 : Int32 → Int32 → Bool → Int32 → MI → ML → Option (Bool)} (hk14 : ∀ (x1z : Int32) (x2z : Int32) (x3z : Bool) (x4z : Int32) (I : MI) (L : ML) (res : Bool), k14 x1z x2z x3z x4z I L = some res → E g 2 0 mX12_isNear 14 [(0, .ref 149), (1, .int x1z), (2, .int x2z), (3, .int (bI x3z)), (4, .int x4z)] [] (I, L) (.inl (some (.int (bI res)))) (I, L)) (x1 : Int32) (x2 : Int32) (x4 : Int32) (I : MI) (L : ML) (res : Bool) (h : f_X12_isNear_51 k14 x1 x2 x4 I L = some res) : E g 2 0 mX12_isNear 51 [(0, .ref 149), (1, .int x1), (2, .int x2), (4, .int x4)] [] (I, L) (.inl (some (.int (bI res)))) (I, L) := by
  unfold f_X12_isNear_51 at h
  refine E_aload_n 52 rfl dX12_isNear_51 rfl 0 rfl ?_
  refine E_iload 54 rfl dX12_isNear_52 3 rfl ?_
  refine E_iconst (v := 0) 55 rfl dX12_isNear_54 (by decide) ?_
  obtain ⟨v1, hv1, h⟩ := Option.bind_eq_some_iff.mp h
  refine E_cV1 (As := [.int x4, .int 0]) 58 rfl dX12_isNear_55 shc_149 ck_X12_249 cv_X12_ofDoor rfl (by decide) (Nat.le_of_ble_eq_true rfl) (C_X12_ofDoor (g := g) hv1) rfl ?_
  refine E_iload_n 59 rfl dX12_isNear_58 rfl 2 rfl ?_
  refine E_icmp_ne 77 62 (by decide) rfl dX12_isNear_59 (fun c2 => ?_) (fun c2 => ?_)
  · rw [if_neg c2] at h
    refine E_sub (lv' := [(0, .ref 149), (1, .int x1), (2, .int x2), (4, .int x4)]) [0, 1, 2, 3] rfl ?_
    exact S_X12_isNear_77 hk14 x1 x2 x4 I L _ h
  · rw [if_pos c2] at h
    refine E_aload_n 63 rfl dX12_isNear_62 rfl 0 rfl ?_
    refine E_iload 65 rfl dX12_isNear_63 3 rfl ?_
    refine E_iconst (v := 1) 66 rfl dX12_isNear_65 (by decide) ?_
    obtain ⟨v3, hv3, h⟩ := Option.bind_eq_some_iff.mp h
    refine E_cV1 (As := [.int x4, .int 1]) 69 rfl dX12_isNear_66 shc_149 ck_X12_249 cv_X12_ofDoor rfl (by decide) (Nat.le_of_ble_eq_true rfl) (C_X12_ofDoor (g := g) hv3) rfl ?_
    refine E_iload_n 70 rfl dX12_isNear_69 rfl 1 rfl ?_
    refine E_icmp_ne 77 73 (by decide) rfl dX12_isNear_70 (fun c4 => ?_) (fun c4 => ?_)
    · rw [if_neg c4] at h
      refine E_sub (lv' := [(0, .ref 149), (1, .int x1), (2, .int x2), (4, .int x4)]) [0, 1, 2, 3] rfl ?_
      exact S_X12_isNear_77 hk14 x1 x2 x4 I L _ h
    · rw [if_pos c4] at h
      refine E_sub (lv' := [(0, .ref 149), (1, .int x1), (2, .int x2), (4, .int x4)]) [0, 1, 2, 3] rfl ?_
      exact S_X12_isNear_73 hk14 x1 x2 x4 I L _ h
def f_X12_isNear_14 : Nat → Int32 → Int32 → Bool → Int32 → MI → ML → Option (Bool)
  | 0, _, _, _, _, _, _ => none
  | n + 1, x1, x2, x3, x4, I, L => Option.bind (ldI I 150 2143 1) fun v1 => if v1 ≤ x4 then (some x3) else (if x3 = true then (f_X12_isNear_73 (f_X12_isNear_14 n) x1 x2 x4 I L) else (Option.bind (f_X12_ofDoor x4 0 I L) fun v4 => if v4 = x1 then (Option.bind (f_X12_ofDoor x4 1 I L) fun v6 => if v6 = x2 then (f_X12_isNear_73 (f_X12_isNear_14 n) x1 x2 x4 I L) else (f_X12_isNear_51 (f_X12_isNear_14 n) x1 x2 x4 I L)) else (f_X12_isNear_51 (f_X12_isNear_14 n) x1 x2 x4 I L)))
set_option maxRecDepth 100000 in
theorem S_X12_isNear_14 {g : Gx} : ∀ (n : Nat) (x1 : Int32) (x2 : Int32) (x3 : Bool) (x4 : Int32) (I : MI) (L : ML) (res : Bool), f_X12_isNear_14 n x1 x2 x3 x4 I L = some res → E g 2 0 mX12_isNear 14 [(0, .ref 149), (1, .int x1), (2, .int x2), (3, .int (bI x3)), (4, .int x4)] [] (I, L) (.inl (some (.int (bI res)))) (I, L) := by
  intro n
  induction n with
  | zero =>
    intros
    rename_i h
    cases h
  | succ n ih =>
    intro x1 x2 x3 x4 I L res h
    rw [f_X12_isNear_14] at h
    refine E_iload 16 rfl dX12_isNear_14 4 rfl ?_
    refine E_aload_n 17 rfl dX12_isNear_16 rfl 0 rfl ?_
    refine E_gR 150 20 rfl dX12_isNear_17 shc_149 fl_X12_13 rfl (by decide) (by decide) ?_
    refine E_iconst (v := 1) 21 rfl dX12_isNear_20 (by decide) ?_
    obtain ⟨v1, hv1, h⟩ := Option.bind_eq_some_iff.mp h
    refine E_ldI 22 rfl dX12_isNear_21 shc_150 hv1 ?_
    refine E_icmp_ge 85 25 (by decide) rfl dX12_isNear_22 (fun c2 => ?_) (fun c2 => ?_)
    · rw [if_pos c2] at h
      refine E_iload_n 86 rfl dX12_isNear_85 rfl 3 rfl ?_
      cases h
      exact E_zret (x := x3) rfl dX12_isNear_86
    · rw [if_neg c2] at h
      refine E_iload_n 26 rfl dX12_isNear_25 rfl 3 rfl ?_
      refine E_if_neB 73 29 (by decide) rfl dX12_isNear_26 (fun c3 => ?_) (fun c3 => ?_)
      · rw [if_pos c3] at h
        refine E_sub (lv' := [(0, .ref 149), (1, .int x1), (2, .int x2), (4, .int x4)]) [0, 1, 2, 4] rfl ?_
        exact S_X12_isNear_73 ih x1 x2 x4 I L _ h
      · rw [if_neg (by rw [c3]; decide)] at h
        refine E_aload_n 30 rfl dX12_isNear_29 rfl 0 rfl ?_
        refine E_iload 32 rfl dX12_isNear_30 4 rfl ?_
        refine E_iconst (v := 0) 33 rfl dX12_isNear_32 (by decide) ?_
        obtain ⟨v4, hv4, h⟩ := Option.bind_eq_some_iff.mp h
        refine E_cV1 (As := [.int x4, .int 0]) 36 rfl dX12_isNear_33 shc_149 ck_X12_249 cv_X12_ofDoor rfl (by decide) (Nat.le_of_ble_eq_true rfl) (C_X12_ofDoor (g := g) hv4) rfl ?_
        refine E_iload_n 37 rfl dX12_isNear_36 rfl 1 rfl ?_
        refine E_icmp_ne 51 40 (by decide) rfl dX12_isNear_37 (fun c5 => ?_) (fun c5 => ?_)
        · rw [if_neg c5] at h
          refine E_sub (lv' := [(0, .ref 149), (1, .int x1), (2, .int x2), (4, .int x4)]) [0, 1, 2, 4] rfl ?_
          exact S_X12_isNear_51 ih x1 x2 x4 I L _ h
        · rw [if_pos c5] at h
          refine E_aload_n 41 rfl dX12_isNear_40 rfl 0 rfl ?_
          refine E_iload 43 rfl dX12_isNear_41 4 rfl ?_
          refine E_iconst (v := 1) 44 rfl dX12_isNear_43 (by decide) ?_
          obtain ⟨v6, hv6, h⟩ := Option.bind_eq_some_iff.mp h
          refine E_cV1 (As := [.int x4, .int 1]) 47 rfl dX12_isNear_44 shc_149 ck_X12_249 cv_X12_ofDoor rfl (by decide) (Nat.le_of_ble_eq_true rfl) (C_X12_ofDoor (g := g) hv6) rfl ?_
          refine E_iload_n 48 rfl dX12_isNear_47 rfl 2 rfl ?_
          refine E_icmp_eq 73 51 (by decide) rfl dX12_isNear_48 (fun c7 => ?_) (fun c7 => ?_)
          · rw [if_pos c7] at h
            refine E_sub (lv' := [(0, .ref 149), (1, .int x1), (2, .int x2), (4, .int x4)]) [0, 1, 2, 4] rfl ?_
            exact S_X12_isNear_73 ih x1 x2 x4 I L _ h
          · rw [if_neg c7] at h
            refine E_sub (lv' := [(0, .ref 149), (1, .int x1), (2, .int x2), (4, .int x4)]) [0, 1, 2, 4] rfl ?_
            exact S_X12_isNear_51 ih x1 x2 x4 I L _ h
def f_X12_isNear_10 (x1 : Int32) (x2 : Int32) (y0 : Bool) (I : MI) (L : ML) : Option (Bool) := f_X12_isNear_14 FU x1 x2 y0 0 I L
set_option maxRecDepth 100000 in
theorem S_X12_isNear_10 {g : Gx} (x1 : Int32) (x2 : Int32) (y0 : Bool) (I : MI) (L : ML) (res : Bool) (h : f_X12_isNear_10 x1 x2 y0 I L = some res) : E g 2 0 mX12_isNear 10 [(0, .ref 149), (1, .int x1), (2, .int x2)] [.int (bI y0)] (I, L) (.inl (some (.int (bI res)))) (I, L) := by
  unfold f_X12_isNear_10 at h
  refine E_istore_n (lv' := [(3, .int (bI y0)), (0, .ref 149), (1, .int x1), (2, .int x2)]) 11 rfl dX12_isNear_10 rfl (Nat.le_of_ble_eq_true rfl) rfl ?_
  refine E_iconst (v := 0) 12 rfl dX12_isNear_11 (by decide) ?_
  refine E_istore (lv' := [(4, .int 0), (3, .int (bI y0)), (0, .ref 149), (1, .int x1), (2, .int x2)]) 14 rfl dX12_isNear_12 (Nat.le_of_ble_eq_true rfl) rfl ?_
  refine E_sub (lv' := [(0, .ref 149), (1, .int x1), (2, .int x2), (3, .int (bI y0)), (4, .int 0)]) [2, 3, 4, 1, 0] rfl ?_
  exact S_X12_isNear_14 FU x1 x2 y0 0 I L _ h
def f_X12_isNear (x1 : Int32) (x2 : Int32) (I : MI) (L : ML) : Option (Bool) := if x1 = x2 then (f_X12_isNear_10 x1 x2 true I L) else (f_X12_isNear_10 x1 x2 false I L)
set_option maxRecDepth 100000 in
theorem S_X12_isNear {g : Gx} (x1 : Int32) (x2 : Int32) (I : MI) (L : ML) (res : Bool) (h : f_X12_isNear x1 x2 I L = some res) : E g 2 0 mX12_isNear 0 [(0, .ref 149), (1, .int x1), (2, .int x2)] [] (I, L) (.inl (some (.int (bI res)))) (I, L) := by
  unfold f_X12_isNear at h
  refine E_iload_n 1 rfl dX12_isNear_0 rfl 1 rfl ?_
  refine E_iload_n 2 rfl dX12_isNear_1 rfl 2 rfl ?_
  refine E_icmp_ne 9 5 (by decide) rfl dX12_isNear_2 (fun c1 => ?_) (fun c1 => ?_)
  · rw [if_neg c1] at h
    refine E_iconst (v := 0) 10 rfl dX12_isNear_9 (by decide) ?_
    refine E_sub (lv' := [(0, .ref 149), (1, .int x1), (2, .int x2)]) [0, 1, 2] rfl ?_
    exact S_X12_isNear_10 x1 x2 false I L _ h
  · rw [if_pos c1] at h
    refine E_iconst (v := 1) 6 rfl dX12_isNear_5 (by decide) ?_
    refine E_goto 10 (by decide) dX12_isNear_6 ?_
    refine E_sub (lv' := [(0, .ref 149), (1, .int x1), (2, .int x2)]) [0, 1, 2] rfl ?_
    exact S_X12_isNear_10 x1 x2 true I L _ h
theorem C_X12_isNear {g : Gx} {x1 : Int32} {x2 : Int32} {I : MI} {L : ML} {res : Bool} (h : f_X12_isNear x1 x2 I L = some res) : Ent g 2 0 mX12_isNear [.ref 149, .int x1, .int x2] (I, L) (.inl (some (.int (bI res)))) (I, L) := Ent_of (by decide +kernel) (Nat.le_of_ble_eq_true rfl) (S_X12_isNear x1 x2 I L _ h)
def f_X12_suspects_163 (x3 : Int32) (I : MI) (L : ML) : Option (Int32 × MI × ML) := some (x3, I, L)
set_option maxRecDepth 100000 in
theorem S_X12_suspects_163 {g : Gx} (x3 : Int32) (I : MI) (L : ML) (res : Int32 × MI × ML) (h : f_X12_suspects_163 x3 I L = some res) : E g 3 0 mX12_suspects 163 [(3, .int x3)] [] (I, L) (.inl (some (.int res.1))) (res.2.1, res.2.2) := by
  unfold f_X12_suspects_163 at h
  refine E_iload_n 164 rfl dX12_suspects_163 rfl 0 rfl ?_
  cases h
  exact E_iret rfl dX12_suspects_164
def f_X12_suspects_149 (k92 : Int32 → Int32 → Int32 → Int32 → Int32 → MI → ML → Option (Int32 × MI × ML)) (x1 : Int32) (x2 : Int32) (x4 : Int32) (x5 : Int32) (y0 : Int32) (y1 : Int32) (I : MI) (L : ML) : Option (Int32 × MI × ML) := k92 x1 x2 (y0 ||| y1) x4 (x5 + 1) I L
set_option maxRecDepth 100000 in
theorem S_X12_suspects_149 {g : Gx} {k92 : Int32 → Int32 → Int32 → Int32 → Int32 → MI → ML → Option (Int32 × MI × ML)} (hk92 : ∀ (x1z : Int32) (x2z : Int32) (x3z : Int32) (x4z : Int32) (x5z : Int32) (I : MI) (L : ML) (res : Int32 × MI × ML), k92 x1z x2z x3z x4z x5z I L = some res → E g 3 0 mX12_suspects 92 [(0, .ref 149), (1, .int x1z), (2, .int x2z), (3, .int x3z), (4, .int x4z), (5, .int x5z)] [] (I, L) (.inl (some (.int res.1))) (res.2.1, res.2.2)) (x1 : Int32) (x2 : Int32) (x4 : Int32) (x5 : Int32) (y0 : Int32) (y1 : Int32) (I : MI) (L : ML) (res : Int32 × MI × ML) (h : f_X12_suspects_149 k92 x1 x2 x4 x5 y0 y1 I L = some res) : E g 3 0 mX12_suspects 149 [(0, .ref 149), (1, .int x1), (2, .int x2), (4, .int x4), (5, .int x5)] [.int y1, .int y0] (I, L) (.inl (some (.int res.1))) (res.2.1, res.2.2) := by
  unfold f_X12_suspects_149 at h
  refine E_ior 150 rfl dX12_suspects_149 ?_
  refine E_istore_n (lv' := [(3, .int (y0 ||| y1)), (0, .ref 149), (1, .int x1), (2, .int x2), (4, .int x4), (5, .int x5)]) 151 rfl dX12_suspects_150 rfl (Nat.le_of_ble_eq_true rfl) rfl ?_
  refine E_iinc (j := 5) (v := x5 + 1) (lv' := [(5, .int (x5 + 1)), (3, .int (y0 ||| y1)), (0, .ref 149), (1, .int x1), (2, .int x2), (4, .int x4)]) 154 rfl dX12_suspects_151 rfl rfl (Nat.le_of_ble_eq_true rfl) rfl ?_
  refine E_goto 92 (by decide) dX12_suspects_154 ?_
  refine E_sub (lv' := [(0, .ref 149), (1, .int x1), (2, .int x2), (3, .int (y0 ||| y1)), (4, .int x4), (5, .int (x5 + 1))]) [2, 3, 4, 1, 5, 0] rfl ?_
  exact hk92 x1 x2 (y0 ||| y1) x4 (x5 + 1) I L _ h
def f_X12_suspects_148 (k92 : Int32 → Int32 → Int32 → Int32 → Int32 → MI → ML → Option (Int32 × MI × ML)) (x1 : Int32) (x2 : Int32) (x4 : Int32) (x5 : Int32) (y0 : Int32) (I : MI) (L : ML) : Option (Int32 × MI × ML) := f_X12_suspects_149 k92 x1 x2 x4 x5 y0 0 I L
set_option maxRecDepth 100000 in
theorem S_X12_suspects_148 {g : Gx} {k92 : Int32 → Int32 → Int32 → Int32 → Int32 → MI → ML → Option (Int32 × MI × ML)} (hk92 : ∀ (x1z : Int32) (x2z : Int32) (x3z : Int32) (x4z : Int32) (x5z : Int32) (I : MI) (L : ML) (res : Int32 × MI × ML), k92 x1z x2z x3z x4z x5z I L = some res → E g 3 0 mX12_suspects 92 [(0, .ref 149), (1, .int x1z), (2, .int x2z), (3, .int x3z), (4, .int x4z), (5, .int x5z)] [] (I, L) (.inl (some (.int res.1))) (res.2.1, res.2.2)) (x1 : Int32) (x2 : Int32) (x4 : Int32) (x5 : Int32) (y0 : Int32) (I : MI) (L : ML) (res : Int32 × MI × ML) (h : f_X12_suspects_148 k92 x1 x2 x4 x5 y0 I L = some res) : E g 3 0 mX12_suspects 148 [(0, .ref 149), (1, .int x1), (2, .int x2), (4, .int x4), (5, .int x5)] [.int y0] (I, L) (.inl (some (.int res.1))) (res.2.1, res.2.2) := by
  unfold f_X12_suspects_148 at h
  refine E_iconst (v := 0) 149 rfl dX12_suspects_148 (by decide) ?_
  refine E_sub (lv' := [(0, .ref 149), (1, .int x1), (2, .int x2), (4, .int x4), (5, .int x5)]) [0, 1, 2, 3, 4] rfl ?_
  exact S_X12_suspects_149 hk92 x1 x2 x4 x5 y0 0 I L _ h
def f_X12_suspects_92 (k71 : Int32 → Int32 → Int32 → Int32 → MI → ML → Option (Int32 × MI × ML)) : Nat → Int32 → Int32 → Int32 → Int32 → Int32 → MI → ML → Option (Int32 × MI × ML)
  | 0, _, _, _, _, _, _, _ => none
  | n + 1, x1, x2, x3, x4, x5, I, L => Option.bind (f_X12_heirs I L) fun v1 => if v1 ≤ x5 then (k71 x1 x2 x3 (x4 + 1) I L) else (Option.bind (ldI I 150 2143 ((205 + (6 * x4)) + x5)) fun v3 => if v3 < 0 then (f_X12_suspects_148 (f_X12_suspects_92 k71 n) x1 x2 x4 x5 x3 I L) else (Option.bind (f_X12_of x1 1 I L) fun v5 => Option.bind (f_X12_isNear v3 v5 I L) fun v6 => if v6 = true then (f_X12_suspects_149 (f_X12_suspects_92 k71 n) x1 x2 x4 x5 x3 (1 <<< (x5 &&& 31)) I L) else (f_X12_suspects_148 (f_X12_suspects_92 k71 n) x1 x2 x4 x5 x3 I L)))
set_option maxRecDepth 100000 in
theorem S_X12_suspects_92 {g : Gx} {k71 : Int32 → Int32 → Int32 → Int32 → MI → ML → Option (Int32 × MI × ML)} (hk71 : ∀ (x1z : Int32) (x2z : Int32) (x3z : Int32) (x4z : Int32) (I : MI) (L : ML) (res : Int32 × MI × ML), k71 x1z x2z x3z x4z I L = some res → E g 3 0 mX12_suspects 71 [(0, .ref 149), (1, .int x1z), (2, .int x2z), (3, .int x3z), (4, .int x4z)] [] (I, L) (.inl (some (.int res.1))) (res.2.1, res.2.2)) : ∀ (n : Nat) (x1 : Int32) (x2 : Int32) (x3 : Int32) (x4 : Int32) (x5 : Int32) (I : MI) (L : ML) (res : Int32 × MI × ML), f_X12_suspects_92 k71 n x1 x2 x3 x4 x5 I L = some res → E g 3 0 mX12_suspects 92 [(0, .ref 149), (1, .int x1), (2, .int x2), (3, .int x3), (4, .int x4), (5, .int x5)] [] (I, L) (.inl (some (.int res.1))) (res.2.1, res.2.2) := by
  intro n
  induction n with
  | zero =>
    intros
    rename_i h
    cases h
  | succ n ih =>
    intro x1 x2 x3 x4 x5 I L res h
    rw [f_X12_suspects_92] at h
    refine E_iload 94 rfl dX12_suspects_92 5 rfl ?_
    refine E_aload_n 95 rfl dX12_suspects_94 rfl 0 rfl ?_
    obtain ⟨v1, hv1, h⟩ := Option.bind_eq_some_iff.mp h
    refine E_cV1 (As := []) 98 rfl dX12_suspects_95 shc_149 ck_X12_64 cv_X12_heirs rfl (by decide) (Nat.le_of_ble_eq_true rfl) (C_X12_heirs (g := g) hv1) rfl ?_
    refine E_icmp_ge 157 101 (by decide) rfl dX12_suspects_98 (fun c2 => ?_) (fun c2 => ?_)
    · rw [if_pos c2] at h
      refine E_iinc (j := 4) (v := x4 + 1) (lv' := [(4, .int (x4 + 1)), (0, .ref 149), (1, .int x1), (2, .int x2), (3, .int x3), (5, .int x5)]) 160 rfl dX12_suspects_157 rfl rfl (Nat.le_of_ble_eq_true rfl) rfl ?_
      refine E_goto 71 (by decide) dX12_suspects_160 ?_
      refine E_sub (lv' := [(0, .ref 149), (1, .int x1), (2, .int x2), (3, .int x3), (4, .int (x4 + 1))]) [1, 2, 3, 4, 0] rfl ?_
      exact hk71 x1 x2 x3 (x4 + 1) I L _ h
    · rw [if_neg c2] at h
      refine E_aload_n 102 rfl dX12_suspects_101 rfl 0 rfl ?_
      refine E_gR 150 105 rfl dX12_suspects_102 shc_149 fl_X12_13 rfl (by decide) (by decide) ?_
      refine E_sipush (v := 205) 108 rfl dX12_suspects_105 (by decide) ?_
      refine E_bipush (v := 6) 110 rfl dX12_suspects_108 (by decide) ?_
      refine E_iload 112 rfl dX12_suspects_110 4 rfl ?_
      refine E_imul 113 rfl dX12_suspects_112 ?_
      refine E_iadd 114 rfl dX12_suspects_113 ?_
      refine E_iload 116 rfl dX12_suspects_114 5 rfl ?_
      refine E_iadd 117 rfl dX12_suspects_116 ?_
      obtain ⟨v3, hv3, h⟩ := Option.bind_eq_some_iff.mp h
      refine E_ldI 118 rfl dX12_suspects_117 shc_150 hv3 ?_
      refine E_istore (lv' := [(6, .int v3), (0, .ref 149), (1, .int x1), (2, .int x2), (3, .int x3), (4, .int x4), (5, .int x5)]) 120 rfl dX12_suspects_118 (Nat.le_of_ble_eq_true rfl) rfl ?_
      refine E_iload_n 121 rfl dX12_suspects_120 rfl 4 rfl ?_
      refine E_iload 123 rfl dX12_suspects_121 0 rfl ?_
      refine E_if_lt 148 126 (by decide) rfl dX12_suspects_123 (fun c4 => ?_) (fun c4 => ?_)
      · rw [if_pos c4] at h
        refine E_sub (lv' := [(0, .ref 149), (1, .int x1), (2, .int x2), (4, .int x4), (5, .int x5)]) [1, 2, 3, 5, 6] rfl ?_
        exact S_X12_suspects_148 ih x1 x2 x4 x5 x3 I L _ h
      · rw [if_neg c4] at h
        refine E_aload_n 127 rfl dX12_suspects_126 rfl 1 rfl ?_
        refine E_iload 129 rfl dX12_suspects_127 0 rfl ?_
        refine E_aload_n 130 rfl dX12_suspects_129 rfl 1 rfl ?_
        refine E_iload_n 131 rfl dX12_suspects_130 rfl 2 rfl ?_
        refine E_iconst (v := 1) 132 rfl dX12_suspects_131 (by decide) ?_
        obtain ⟨v5, hv5, h⟩ := Option.bind_eq_some_iff.mp h
        refine E_cV1 (As := [.int x1, .int 1]) 135 rfl dX12_suspects_132 shc_149 ck_X12_260 cv_X12_of rfl (by decide) (Nat.le_of_ble_eq_true rfl) (C_X12_of (g := g) hv5) rfl ?_
        obtain ⟨v6, hv6, h⟩ := Option.bind_eq_some_iff.mp h
        refine E_cV1 (As := [.int v3, .int v5]) 138 rfl dX12_suspects_135 shc_149 ck_X12_354 cv_X12_isNear rfl (by decide) (Nat.le_of_ble_eq_true rfl) (C_X12_isNear (g := g) hv6) rfl ?_
        refine E_if_eqB 148 141 (by decide) rfl dX12_suspects_138 (fun c7 => ?_) (fun c7 => ?_)
        · rw [if_neg (by rw [c7]; decide)] at h
          refine E_sub (lv' := [(0, .ref 149), (1, .int x1), (2, .int x2), (4, .int x4), (5, .int x5)]) [1, 2, 3, 5, 6] rfl ?_
          exact S_X12_suspects_148 ih x1 x2 x4 x5 x3 I L _ h
        · rw [if_pos c7] at h
          refine E_iconst (v := 1) 142 rfl dX12_suspects_141 (by decide) ?_
          refine E_iload 144 rfl dX12_suspects_142 6 rfl ?_
          refine E_ishl 145 rfl dX12_suspects_144 ?_
          refine E_goto 149 (by decide) dX12_suspects_145 ?_
          refine E_sub (lv' := [(0, .ref 149), (1, .int x1), (2, .int x2), (4, .int x4), (5, .int x5)]) [1, 2, 3, 5, 6] rfl ?_
          exact S_X12_suspects_149 ih x1 x2 x4 x5 x3 (1 <<< (x5 &&& 31)) I L _ h
def f_X12_suspects_71 : Nat → Int32 → Int32 → Int32 → Int32 → MI → ML → Option (Int32 × MI × ML)
  | 0, _, _, _, _, _, _ => none
  | n + 1, x1, x2, x3, x4, I, L => Option.bind (ldI I 150 2143 14) fun v1 => if v1 ≤ x4 then (f_X12_suspects_163 x3 I L) else (if x2 ≤ x4 then (f_X12_suspects_163 x3 I L) else (f_X12_suspects_92 (f_X12_suspects_71 n) FU x1 x2 x3 x4 0 I L))
set_option maxRecDepth 100000 in
theorem S_X12_suspects_71 {g : Gx} : ∀ (n : Nat) (x1 : Int32) (x2 : Int32) (x3 : Int32) (x4 : Int32) (I : MI) (L : ML) (res : Int32 × MI × ML), f_X12_suspects_71 n x1 x2 x3 x4 I L = some res → E g 3 0 mX12_suspects 71 [(0, .ref 149), (1, .int x1), (2, .int x2), (3, .int x3), (4, .int x4)] [] (I, L) (.inl (some (.int res.1))) (res.2.1, res.2.2) := by
  intro n
  induction n with
  | zero =>
    intros
    rename_i h
    cases h
  | succ n ih =>
    intro x1 x2 x3 x4 I L res h
    rw [f_X12_suspects_71] at h
    refine E_iload 73 rfl dX12_suspects_71 4 rfl ?_
    refine E_aload_n 74 rfl dX12_suspects_73 rfl 0 rfl ?_
    refine E_gR 150 77 rfl dX12_suspects_74 shc_149 fl_X12_13 rfl (by decide) (by decide) ?_
    refine E_bipush (v := 14) 79 rfl dX12_suspects_77 (by decide) ?_
    obtain ⟨v1, hv1, h⟩ := Option.bind_eq_some_iff.mp h
    refine E_ldI 80 rfl dX12_suspects_79 shc_150 hv1 ?_
    refine E_icmp_ge 163 83 (by decide) rfl dX12_suspects_80 (fun c2 => ?_) (fun c2 => ?_)
    · rw [if_pos c2] at h
      refine E_sub (lv' := [(3, .int x3)]) [3] rfl ?_
      exact S_X12_suspects_163 x3 I L _ h
    · rw [if_neg c2] at h
      refine E_iload 85 rfl dX12_suspects_83 4 rfl ?_
      refine E_iload_n 86 rfl dX12_suspects_85 rfl 2 rfl ?_
      refine E_icmp_ge 163 89 (by decide) rfl dX12_suspects_86 (fun c3 => ?_) (fun c3 => ?_)
      · rw [if_pos c3] at h
        refine E_sub (lv' := [(3, .int x3)]) [3] rfl ?_
        exact S_X12_suspects_163 x3 I L _ h
      · rw [if_neg c3] at h
        refine E_iconst (v := 0) 90 rfl dX12_suspects_89 (by decide) ?_
        refine E_istore (lv' := [(5, .int 0), (0, .ref 149), (1, .int x1), (2, .int x2), (3, .int x3), (4, .int x4)]) 92 rfl dX12_suspects_90 (Nat.le_of_ble_eq_true rfl) rfl ?_
        refine E_sub (lv' := [(0, .ref 149), (1, .int x1), (2, .int x2), (3, .int x3), (4, .int x4), (5, .int 0)]) [1, 2, 3, 4, 5, 0] rfl ?_
        exact S_X12_suspects_92 ih FU x1 x2 x3 x4 0 I L _ h
def f_X12_suspects (x1 : Int32) (I : MI) (L : ML) : Option (Int32 × MI × ML) := Option.bind (pfI I 149 0 0) fun I1 => Option.bind (f_X12_noNoise x1 I1 L) fun v2 => Option.bind (f_X12_throwsIf v2 1 I1 L) fun w3 => if w3.1 = true then (some (0, w3.2.1, w3.2.2)) else (Option.bind (f_X12_of x1 7 w3.2.1 w3.2.2) fun v5 => if 0 ≤ v5 then (Option.bind (ldI w3.2.1 150 2143 6) fun v7 => Option.bind (ldI w3.2.1 150 2143 7) fun v8 => Option.bind (f_X12_of x1 7 w3.2.1 w3.2.2) fun v9 => f_X12_suspects_71 FU x1 (((24 * v7) + v8) - v9) 0 0 w3.2.1 w3.2.2) else (Option.bind (f_X12_heirs w3.2.1 w3.2.2) fun v10 => some ((1 <<< (v10 &&& 31)) - 1, w3.2.1, w3.2.2)))
set_option maxRecDepth 100000 in
theorem S_X12_suspects {g : Gx} (x1 : Int32) (I : MI) (L : ML) (res : Int32 × MI × ML) (h : f_X12_suspects x1 I L = some res) : E g 3 0 mX12_suspects 0 [(0, .ref 149), (1, .int x1)] [] (I, L) (.inl (some (.int res.1))) (res.2.1, res.2.2) := by
  unfold f_X12_suspects at h
  refine E_aload_n 1 rfl dX12_suspects_0 rfl 0 rfl ?_
  refine E_iconst (v := 0) 2 rfl dX12_suspects_1 (by decide) ?_
  obtain ⟨I1, hI1, h⟩ := Option.bind_eq_some_iff.mp h
  refine E_pfI 5 rfl dX12_suspects_2 shc_149 fl_X12_3 rfl hI1 ?_
  refine E_aload_n 6 rfl dX12_suspects_5 rfl 0 rfl ?_
  refine E_aload_n 7 rfl dX12_suspects_6 rfl 0 rfl ?_
  refine E_iload_n 8 rfl dX12_suspects_7 rfl 1 rfl ?_
  obtain ⟨v2, hv2, h⟩ := Option.bind_eq_some_iff.mp h
  refine E_cV1 (As := [.int x1]) 11 rfl dX12_suspects_8 shc_149 ck_X12_304 cv_X12_noNoise rfl (by decide) (Nat.le_of_ble_eq_true rfl) (C_X12_noNoise (g := g) hv2) rfl ?_
  refine E_iconst (v := 1) 12 rfl dX12_suspects_11 (by decide) ?_
  obtain ⟨w3, hw3, h⟩ := Option.bind_eq_some_iff.mp h
  refine E_cV1 (As := [.int (bI v2), .int 1]) 15 rfl dX12_suspects_12 shc_149 ck_X12_245 cv_X12_throwsIf rfl (by decide) (Nat.le_of_ble_eq_true rfl) (C_X12_throwsIf (g := g) hw3) rfl ?_
  refine E_if_eqB 20 18 (by decide) rfl dX12_suspects_15 (fun c4 => ?_) (fun c4 => ?_)
  · rw [if_neg (by rw [c4]; decide)] at h
    refine E_aload_n 21 rfl dX12_suspects_20 rfl 0 rfl ?_
    refine E_iload_n 22 rfl dX12_suspects_21 rfl 1 rfl ?_
    refine E_bipush (v := 7) 24 rfl dX12_suspects_22 (by decide) ?_
    obtain ⟨v5, hv5, h⟩ := Option.bind_eq_some_iff.mp h
    refine E_cV1 (As := [.int x1, .int 7]) 27 rfl dX12_suspects_24 shc_149 ck_X12_260 cv_X12_of rfl (by decide) (Nat.le_of_ble_eq_true rfl) (C_X12_of (g := g) hv5) rfl ?_
    refine E_if_ge 39 30 (by decide) rfl dX12_suspects_27 (fun c6 => ?_) (fun c6 => ?_)
    · rw [if_pos c6] at h
      refine E_bipush (v := 24) 41 rfl dX12_suspects_39 (by decide) ?_
      refine E_aload_n 42 rfl dX12_suspects_41 rfl 0 rfl ?_
      refine E_gR 150 45 rfl dX12_suspects_42 shc_149 fl_X12_13 rfl (by decide) (by decide) ?_
      refine E_bipush (v := 6) 47 rfl dX12_suspects_45 (by decide) ?_
      obtain ⟨v7, hv7, h⟩ := Option.bind_eq_some_iff.mp h
      refine E_ldI 48 rfl dX12_suspects_47 shc_150 hv7 ?_
      refine E_imul 49 rfl dX12_suspects_48 ?_
      refine E_aload_n 50 rfl dX12_suspects_49 rfl 0 rfl ?_
      refine E_gR 150 53 rfl dX12_suspects_50 shc_149 fl_X12_13 rfl (by decide) (by decide) ?_
      refine E_bipush (v := 7) 55 rfl dX12_suspects_53 (by decide) ?_
      obtain ⟨v8, hv8, h⟩ := Option.bind_eq_some_iff.mp h
      refine E_ldI 56 rfl dX12_suspects_55 shc_150 hv8 ?_
      refine E_iadd 57 rfl dX12_suspects_56 ?_
      refine E_aload_n 58 rfl dX12_suspects_57 rfl 0 rfl ?_
      refine E_iload_n 59 rfl dX12_suspects_58 rfl 1 rfl ?_
      refine E_bipush (v := 7) 61 rfl dX12_suspects_59 (by decide) ?_
      obtain ⟨v9, hv9, h⟩ := Option.bind_eq_some_iff.mp h
      refine E_cV1 (As := [.int x1, .int 7]) 64 rfl dX12_suspects_61 shc_149 ck_X12_260 cv_X12_of rfl (by decide) (Nat.le_of_ble_eq_true rfl) (C_X12_of (g := g) hv9) rfl ?_
      refine E_isub 65 rfl dX12_suspects_64 ?_
      refine E_istore_n (lv' := [(2, .int (((24 * v7) + v8) - v9)), (0, .ref 149), (1, .int x1)]) 66 rfl dX12_suspects_65 rfl (Nat.le_of_ble_eq_true rfl) rfl ?_
      refine E_iconst (v := 0) 67 rfl dX12_suspects_66 (by decide) ?_
      refine E_istore_n (lv' := [(3, .int 0), (2, .int (((24 * v7) + v8) - v9)), (0, .ref 149), (1, .int x1)]) 68 rfl dX12_suspects_67 rfl (Nat.le_of_ble_eq_true rfl) rfl ?_
      refine E_iconst (v := 0) 69 rfl dX12_suspects_68 (by decide) ?_
      refine E_istore (lv' := [(4, .int 0), (3, .int 0), (2, .int (((24 * v7) + v8) - v9)), (0, .ref 149), (1, .int x1)]) 71 rfl dX12_suspects_69 (Nat.le_of_ble_eq_true rfl) rfl ?_
      refine E_sub (lv' := [(0, .ref 149), (1, .int x1), (2, .int (((24 * v7) + v8) - v9)), (3, .int 0), (4, .int 0)]) [3, 4, 2, 1, 0] rfl ?_
      exact S_X12_suspects_71 FU x1 (((24 * v7) + v8) - v9) 0 0 w3.2.1 w3.2.2 _ h
    · rw [if_neg c6] at h
      refine E_iconst (v := 1) 31 rfl dX12_suspects_30 (by decide) ?_
      refine E_aload_n 32 rfl dX12_suspects_31 rfl 0 rfl ?_
      obtain ⟨v10, hv10, h⟩ := Option.bind_eq_some_iff.mp h
      refine E_cV1 (As := []) 35 rfl dX12_suspects_32 shc_149 ck_X12_64 cv_X12_heirs rfl (by decide) (Nat.le_of_ble_eq_true rfl) (C_X12_heirs (g := g) hv10) rfl ?_
      refine E_ishl 36 rfl dX12_suspects_35 ?_
      refine E_iconst (v := 1) 37 rfl dX12_suspects_36 (by decide) ?_
      refine E_isub 38 rfl dX12_suspects_37 ?_
      cases h
      exact E_iret rfl dX12_suspects_38
  · rw [if_pos c4] at h
    refine E_iconst (v := 0) 19 rfl dX12_suspects_18 (by decide) ?_
    cases h
    exact E_iret rfl dX12_suspects_19
theorem C_X12_suspects {g : Gx} {x1 : Int32} {I : MI} {L : ML} {res : Int32 × MI × ML} (h : f_X12_suspects x1 I L = some res) : Ent g 3 0 mX12_suspects [.ref 149, .int x1] (I, L) (.inl (some (.int res.1))) (res.2.1, res.2.2) := Ent_of (by decide +kernel) (Nat.le_of_ble_eq_true rfl) (S_X12_suspects x1 I L _ h)
def f_X12_isGhost_66 (k5 : Int32 → Int32 → Bool → Int32 → MI → ML → Option (Bool)) (x1 : Int32) (x2 : Int32) (x4 : Int32) (y0 : Bool) (I : MI) (L : ML) : Option (Bool) := k5 x1 x2 y0 (x4 + 2) I L
set_option maxRecDepth 100000 in
theorem S_X12_isGhost_66 {g : Gx} {k5 : Int32 → Int32 → Bool → Int32 → MI → ML → Option (Bool)} (hk5 : ∀ (x1z : Int32) (x2z : Int32) (x3z : Bool) (x4z : Int32) (I : MI) (L : ML) (res : Bool), k5 x1z x2z x3z x4z I L = some res → E g 5 0 mX12_isGhost 5 [(0, .ref 149), (1, .int x1z), (2, .int x2z), (3, .int (bI x3z)), (4, .int x4z)] [] (I, L) (.inl (some (.int (bI res)))) (I, L)) (x1 : Int32) (x2 : Int32) (x4 : Int32) (y0 : Bool) (I : MI) (L : ML) (res : Bool) (h : f_X12_isGhost_66 k5 x1 x2 x4 y0 I L = some res) : E g 5 0 mX12_isGhost 66 [(0, .ref 149), (1, .int x1), (2, .int x2), (4, .int x4)] [.int (bI y0)] (I, L) (.inl (some (.int (bI res)))) (I, L) := by
  unfold f_X12_isGhost_66 at h
  refine E_istore_n (lv' := [(3, .int (bI y0)), (0, .ref 149), (1, .int x1), (2, .int x2), (4, .int x4)]) 67 rfl dX12_isGhost_66 rfl (Nat.le_of_ble_eq_true rfl) rfl ?_
  refine E_iinc (j := 4) (v := x4 + 2) (lv' := [(4, .int (x4 + 2)), (3, .int (bI y0)), (0, .ref 149), (1, .int x1), (2, .int x2)]) 70 rfl dX12_isGhost_67 rfl rfl (Nat.le_of_ble_eq_true rfl) rfl ?_
  refine E_goto 5 (by decide) dX12_isGhost_70 ?_
  refine E_sub (lv' := [(0, .ref 149), (1, .int x1), (2, .int x2), (3, .int (bI y0)), (4, .int (x4 + 2))]) [2, 3, 4, 1, 0] rfl ?_
  exact hk5 x1 x2 y0 (x4 + 2) I L _ h
def f_X12_isGhost_65 (k5 : Int32 → Int32 → Bool → Int32 → MI → ML → Option (Bool)) (x1 : Int32) (x2 : Int32) (x4 : Int32) (I : MI) (L : ML) : Option (Bool) := f_X12_isGhost_66 k5 x1 x2 x4 false I L
set_option maxRecDepth 100000 in
theorem S_X12_isGhost_65 {g : Gx} {k5 : Int32 → Int32 → Bool → Int32 → MI → ML → Option (Bool)} (hk5 : ∀ (x1z : Int32) (x2z : Int32) (x3z : Bool) (x4z : Int32) (I : MI) (L : ML) (res : Bool), k5 x1z x2z x3z x4z I L = some res → E g 5 0 mX12_isGhost 5 [(0, .ref 149), (1, .int x1z), (2, .int x2z), (3, .int (bI x3z)), (4, .int x4z)] [] (I, L) (.inl (some (.int (bI res)))) (I, L)) (x1 : Int32) (x2 : Int32) (x4 : Int32) (I : MI) (L : ML) (res : Bool) (h : f_X12_isGhost_65 k5 x1 x2 x4 I L = some res) : E g 5 0 mX12_isGhost 65 [(0, .ref 149), (1, .int x1), (2, .int x2), (4, .int x4)] [] (I, L) (.inl (some (.int (bI res)))) (I, L) := by
  unfold f_X12_isGhost_65 at h
  refine E_iconst (v := 0) 66 rfl dX12_isGhost_65 (by decide) ?_
  refine E_sub (lv' := [(0, .ref 149), (1, .int x1), (2, .int x2), (4, .int x4)]) [0, 1, 2, 3] rfl ?_
  exact S_X12_isGhost_66 hk5 x1 x2 x4 false I L _ h
def f_X12_isGhost_5 : Nat → Int32 → Int32 → Bool → Int32 → MI → ML → Option (Bool)
  | 0, _, _, _, _, _, _ => none
  | n + 1, x1, x2, x3, x4, I, L => if (I 149 10) ≤ x4 then (some x3) else (if x3 = true then (Option.bind (ldI I 154 400 x4) fun v3 => Option.bind (f_X12_costOf x1 (v3 - 97) I L) fun v4 => Option.bind (ldI I 150 2143 (15 + x1)) fun v5 => Option.bind (ldI I 154 400 (x4 + 1)) fun v6 => if (if 0 < ((x2 - v4) - v5) then ((x2 - v4) - v5) else 0) = v6 then (f_X12_isGhost_66 (f_X12_isGhost_5 n) x1 x2 x4 true I L) else (f_X12_isGhost_65 (f_X12_isGhost_5 n) x1 x2 x4 I L)) else (f_X12_isGhost_65 (f_X12_isGhost_5 n) x1 x2 x4 I L))
set_option maxRecDepth 100000 in
theorem S_X12_isGhost_5 {g : Gx} : ∀ (n : Nat) (x1 : Int32) (x2 : Int32) (x3 : Bool) (x4 : Int32) (I : MI) (L : ML) (res : Bool), f_X12_isGhost_5 n x1 x2 x3 x4 I L = some res → E g 5 0 mX12_isGhost 5 [(0, .ref 149), (1, .int x1), (2, .int x2), (3, .int (bI x3)), (4, .int x4)] [] (I, L) (.inl (some (.int (bI res)))) (I, L) := by
  intro n
  induction n with
  | zero =>
    intros
    rename_i h
    cases h
  | succ n ih =>
    intro x1 x2 x3 x4 I L res h
    rw [f_X12_isGhost_5] at h
    refine E_iload 7 rfl dX12_isGhost_5 4 rfl ?_
    refine E_aload_n 8 rfl dX12_isGhost_7 rfl 0 rfl ?_
    refine E_gI 11 rfl dX12_isGhost_8 shc_149 fl_X12_76 rfl ?_
    refine E_icmp_ge 73 14 (by decide) rfl dX12_isGhost_11 (fun c1 => ?_) (fun c1 => ?_)
    · rw [if_pos c1] at h
      refine E_iload_n 74 rfl dX12_isGhost_73 rfl 3 rfl ?_
      cases h
      exact E_zret (x := x3) rfl dX12_isGhost_74
    · rw [if_neg c1] at h
      refine E_iload_n 15 rfl dX12_isGhost_14 rfl 3 rfl ?_
      refine E_if_eqB 65 18 (by decide) rfl dX12_isGhost_15 (fun c2 => ?_) (fun c2 => ?_)
      · rw [if_neg (by rw [c2]; decide)] at h
        refine E_sub (lv' := [(0, .ref 149), (1, .int x1), (2, .int x2), (4, .int x4)]) [0, 1, 2, 4] rfl ?_
        exact S_X12_isGhost_65 ih x1 x2 x4 I L _ h
      · rw [if_pos c2] at h
        refine E_iconst (v := 0) 19 rfl dX12_isGhost_18 (by decide) ?_
        refine E_iload_n 20 rfl dX12_isGhost_19 rfl 2 rfl ?_
        refine E_aload_n 21 rfl dX12_isGhost_20 rfl 0 rfl ?_
        refine E_iload_n 22 rfl dX12_isGhost_21 rfl 1 rfl ?_
        refine E_aload_n 23 rfl dX12_isGhost_22 rfl 0 rfl ?_
        refine E_gR 154 26 rfl dX12_isGhost_23 shc_149 fl_X12_26 rfl (by decide) (by decide) ?_
        refine E_iload 28 rfl dX12_isGhost_26 4 rfl ?_
        obtain ⟨v3, hv3, h⟩ := Option.bind_eq_some_iff.mp h
        refine E_ldB 29 rfl dX12_isGhost_28 shc_154 hv3 ?_
        refine E_bipush (v := 97) 31 rfl dX12_isGhost_29 (by decide) ?_
        refine E_isub 32 rfl dX12_isGhost_31 ?_
        obtain ⟨v4, hv4, h⟩ := Option.bind_eq_some_iff.mp h
        refine E_cV1 (As := [.int x1, .int (v3 - 97)]) 35 rfl dX12_isGhost_32 shc_149 ck_X12_252 cv_X12_costOf rfl (by decide) (Nat.le_of_ble_eq_true rfl) (C_X12_costOf (g := g) hv4) rfl ?_
        refine E_isub 36 rfl dX12_isGhost_35 ?_
        refine E_aload_n 37 rfl dX12_isGhost_36 rfl 0 rfl ?_
        refine E_gR 150 40 rfl dX12_isGhost_37 shc_149 fl_X12_13 rfl (by decide) (by decide) ?_
        refine E_bipush (v := 15) 42 rfl dX12_isGhost_40 (by decide) ?_
        refine E_iload_n 43 rfl dX12_isGhost_42 rfl 1 rfl ?_
        refine E_iadd 44 rfl dX12_isGhost_43 ?_
        obtain ⟨v5, hv5, h⟩ := Option.bind_eq_some_iff.mp h
        refine E_ldI 45 rfl dX12_isGhost_44 shc_150 hv5 ?_
        refine E_isub 46 rfl dX12_isGhost_45 ?_
        refine E_max 49 rfl dX12_isGhost_46 jm_X12_263 (by decide) (Nat.le_of_ble_eq_true rfl) ?_
        refine E_aload_n 50 rfl dX12_isGhost_49 rfl 0 rfl ?_
        refine E_gR 154 53 rfl dX12_isGhost_50 shc_149 fl_X12_26 rfl (by decide) (by decide) ?_
        refine E_iload 55 rfl dX12_isGhost_53 4 rfl ?_
        refine E_iconst (v := 1) 56 rfl dX12_isGhost_55 (by decide) ?_
        refine E_iadd 57 rfl dX12_isGhost_56 ?_
        obtain ⟨v6, hv6, h⟩ := Option.bind_eq_some_iff.mp h
        refine E_ldB 58 rfl dX12_isGhost_57 shc_154 hv6 ?_
        refine E_icmp_ne 65 61 (by decide) rfl dX12_isGhost_58 (fun c7 => ?_) (fun c7 => ?_)
        · rw [if_neg c7] at h
          refine E_sub (lv' := [(0, .ref 149), (1, .int x1), (2, .int x2), (4, .int x4)]) [0, 1, 2, 4] rfl ?_
          exact S_X12_isGhost_65 ih x1 x2 x4 I L _ h
        · rw [if_pos c7] at h
          refine E_iconst (v := 1) 62 rfl dX12_isGhost_61 (by decide) ?_
          refine E_goto 66 (by decide) dX12_isGhost_62 ?_
          refine E_sub (lv' := [(0, .ref 149), (1, .int x1), (2, .int x2), (4, .int x4)]) [0, 1, 2, 4] rfl ?_
          exact S_X12_isGhost_66 ih x1 x2 x4 true I L _ h
def f_X12_isGhost (x1 : Int32) (x2 : Int32) (I : MI) (L : ML) : Option (Bool) := f_X12_isGhost_5 FU x1 x2 true 0 I L
set_option maxRecDepth 100000 in
theorem S_X12_isGhost {g : Gx} (x1 : Int32) (x2 : Int32) (I : MI) (L : ML) (res : Bool) (h : f_X12_isGhost x1 x2 I L = some res) : E g 5 0 mX12_isGhost 0 [(0, .ref 149), (1, .int x1), (2, .int x2)] [] (I, L) (.inl (some (.int (bI res)))) (I, L) := by
  unfold f_X12_isGhost at h
  refine E_iconst (v := 1) 1 rfl dX12_isGhost_0 (by decide) ?_
  refine E_istore_n (lv' := [(3, .int 1), (0, .ref 149), (1, .int x1), (2, .int x2)]) 2 rfl dX12_isGhost_1 rfl (Nat.le_of_ble_eq_true rfl) rfl ?_
  refine E_iconst (v := 0) 3 rfl dX12_isGhost_2 (by decide) ?_
  refine E_istore (lv' := [(4, .int 0), (3, .int 1), (0, .ref 149), (1, .int x1), (2, .int x2)]) 5 rfl dX12_isGhost_3 (Nat.le_of_ble_eq_true rfl) rfl ?_
  refine E_sub (lv' := [(0, .ref 149), (1, .int x1), (2, .int x2), (3, .int 1), (4, .int 0)]) [2, 3, 4, 1, 0] rfl ?_
  exact S_X12_isGhost_5 FU x1 x2 true 0 I L _ h
theorem C_X12_isGhost {g : Gx} {x1 : Int32} {x2 : Int32} {I : MI} {L : ML} {res : Bool} (h : f_X12_isGhost x1 x2 I L = some res) : Ent g 5 0 mX12_isGhost [.ref 149, .int x1, .int x2] (I, L) (.inl (some (.int (bI res)))) (I, L) := Ent_of (by decide +kernel) (Nat.le_of_ble_eq_true rfl) (S_X12_isGhost x1 x2 I L _ h)
