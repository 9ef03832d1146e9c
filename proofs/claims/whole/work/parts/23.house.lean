def f_X3_copyFrom_201 : Nat → Nat → Nat → Int32 → MI → ML → Option (MI × ML)
  | 0, _, _, _, _, _ => none
  | n + 1, x0, x1, x2, I, L => if 12 ≤ x2 then (Option.bind (f_X9_copyFrom x0 x1 I L) fun w2 => some (w2.1, w2.2)) else (Option.bind (ldR (x0 + 33) 12 x2) fun v3 => Option.bind (ldR (x1 + 33) 12 x2) fun v4 => Option.bind (f_X5_copyFrom v3 v4 I L) fun w5 => f_X3_copyFrom_201 n x0 x1 (x2 + 1) w5.1 w5.2)
set_option maxRecDepth 100000 in
theorem S_X3_copyFrom_201 {g : Gx} : ∀ (n : Nat) (x0 : Nat) (x1 : Nat) (x2 : Int32) (hx0 : isH x0) (hx1 : isH x1) (I : MI) (L : ML) (res : MI × ML), f_X3_copyFrom_201 n x0 x1 x2 I L = some res → E g 6 0 mX3_copyFrom 201 [(0, .ref x0), (1, .ref x1), (2, .int x2)] [] (I, L) (.inl none) (res.1, res.2) := by
  intro n
  induction n with
  | zero =>
    intros
    rename_i h
    cases h
  | succ n ih =>
    intro x0 x1 x2 hx0 hx1 I L res h
    rw [f_X3_copyFrom_201] at h
    refine E_iload_n (M := mX3_copyFrom) 202 rfl dX3_copyFrom_201 rfl 2 rfl ?_
    refine E_bipush (M := mX3_copyFrom) (v := 12) 204 rfl dX3_copyFrom_202 (by decide) ?_
    refine E_icmp_ge (M := mX3_copyFrom) 228 207 (by decide) rfl dX3_copyFrom_204 (fun c1 => ?_) (fun c1 => ?_)
    · rw [if_pos c1] at h
      refine E_aload_n (M := mX3_copyFrom) 229 rfl dX3_copyFrom_228 rfl 0 rfl ?_
      refine E_gR (M := mX3_copyFrom) (x0 + 5) 232 rfl dX3_copyFrom_229 (sh_H hx0) fl_X3_49 rfl (rt_H8 hx0) (H_lt hx0 5 (by decide)) ?_
      refine E_aload_n (M := mX3_copyFrom) 233 rfl dX3_copyFrom_232 rfl 1 rfl ?_
      refine E_gR (M := mX3_copyFrom) (x1 + 5) 236 rfl dX3_copyFrom_233 (sh_H hx1) fl_X3_49 rfl (rt_H8 hx1) (H_lt hx1 5 (by decide)) ?_
      replace h := Option.bind_eq_some_iff.mp h
      obtain ⟨w2, hw2, h⟩ := h
      refine E_cV0 (M := mX3_copyFrom) (As := [.ref (x1 + 5)]) 239 rfl dX3_copyFrom_236 (sh_H5 hx0) ck_X3_104 cv_X9_copyFrom rfl (by decide) (Nat.le_of_ble_eq_true rfl) (C_X9_copyFrom (g := g) hx0 hx1 hw2) rfl ?_
      cases h
      exact E_vret (M := mX3_copyFrom) rfl dX3_copyFrom_239
    · rw [if_neg c1] at h
      refine E_aload_n (M := mX3_copyFrom) 208 rfl dX3_copyFrom_207 rfl 0 rfl ?_
      refine E_gR (M := mX3_copyFrom) (x0 + 4) 211 rfl dX3_copyFrom_208 (sh_H hx0) fl_X3_42 rfl (rt_H7 hx0) (H_lt hx0 4 (by decide)) ?_
      refine E_iload_n (M := mX3_copyFrom) 212 rfl dX3_copyFrom_211 rfl 2 rfl ?_
      replace h := Option.bind_eq_some_iff.mp h
      obtain ⟨v3, hv3, h⟩ := h
      refine E_ldN (M := mX3_copyFrom) hx0 213 rfl dX3_copyFrom_212 hv3 ?_
      refine E_aload_n (M := mX3_copyFrom) 214 rfl dX3_copyFrom_213 rfl 1 rfl ?_
      refine E_gR (M := mX3_copyFrom) (x1 + 4) 217 rfl dX3_copyFrom_214 (sh_H hx1) fl_X3_42 rfl (rt_H7 hx1) (H_lt hx1 4 (by decide)) ?_
      refine E_iload_n (M := mX3_copyFrom) 218 rfl dX3_copyFrom_217 rfl 2 rfl ?_
      replace h := Option.bind_eq_some_iff.mp h
      obtain ⟨v4, hv4, h⟩ := h
      refine E_ldN (M := mX3_copyFrom) hx1 219 rfl dX3_copyFrom_218 hv4 ?_
      replace h := Option.bind_eq_some_iff.mp h
      obtain ⟨w5, hw5, h⟩ := h
      refine E_cV0 (M := mX3_copyFrom) (As := [.ref v4]) 222 rfl dX3_copyFrom_219 (sh_N (isN_ld hx0 hv3)) ck_X3_101 cv_X5_copyFrom rfl (by decide) (Nat.le_of_ble_eq_true rfl) (C_X5_copyFrom (g := g) (isN_ld hx0 hv3) (isN_ld hx1 hv4) hw5) rfl ?_
      refine E_iinc (M := mX3_copyFrom) (j := 2) (v := x2 + 1) (lv' := [(2, .int (x2 + 1)), (0, .ref x0), (1, .ref x1)]) 225 rfl dX3_copyFrom_222 rfl rfl (Nat.le_of_ble_eq_true rfl) rfl ?_
      refine E_goto (M := mX3_copyFrom) 201 (by decide) dX3_copyFrom_225 ?_
      refine E_sub (M := mX3_copyFrom) (lv' := [(0, .ref x0), (1, .ref x1), (2, .int (x2 + 1))]) [1, 2, 0] rfl ?_
      exact ih x0 x1 (x2 + 1) hx0 hx1 w5.1 w5.2 _ h
def f_X3_copyFrom_172 : Nat → Nat → Nat → Int32 → MI → ML → Option (MI × ML)
  | 0, _, _, _, _, _ => none
  | n + 1, x0, x1, x2, I, L => if 6 ≤ x2 then (f_X3_copyFrom_201 FU x0 x1 0 I L) else (Option.bind (ldR (x0 + 27) 6 x2) fun v2 => Option.bind (ldR (x1 + 27) 6 x2) fun v3 => Option.bind (f_X2_copyFrom v2 v3 I L) fun w4 => f_X3_copyFrom_172 n x0 x1 (x2 + 1) w4.1 w4.2)
set_option maxRecDepth 100000 in
theorem S_X3_copyFrom_172 {g : Gx} : ∀ (n : Nat) (x0 : Nat) (x1 : Nat) (x2 : Int32) (hx0 : isH x0) (hx1 : isH x1) (I : MI) (L : ML) (res : MI × ML), f_X3_copyFrom_172 n x0 x1 x2 I L = some res → E g 6 0 mX3_copyFrom 172 [(0, .ref x0), (1, .ref x1), (2, .int x2)] [] (I, L) (.inl none) (res.1, res.2) := by
  intro n
  induction n with
  | zero =>
    intros
    rename_i h
    cases h
  | succ n ih =>
    intro x0 x1 x2 hx0 hx1 I L res h
    rw [f_X3_copyFrom_172] at h
    refine E_iload_n (M := mX3_copyFrom) 173 rfl dX3_copyFrom_172 rfl 2 rfl ?_
    refine E_bipush (M := mX3_copyFrom) (v := 6) 175 rfl dX3_copyFrom_173 (by decide) ?_
    refine E_icmp_ge (M := mX3_copyFrom) 199 178 (by decide) rfl dX3_copyFrom_175 (fun c1 => ?_) (fun c1 => ?_)
    · rw [if_pos c1] at h
      refine E_iconst (M := mX3_copyFrom) (v := 0) 200 rfl dX3_copyFrom_199 (by decide) ?_
      refine E_istore_n (M := mX3_copyFrom) (lv' := [(2, .int 0), (0, .ref x0), (1, .ref x1)]) 201 rfl dX3_copyFrom_200 rfl (Nat.le_of_ble_eq_true rfl) rfl ?_
      refine E_sub (M := mX3_copyFrom) (lv' := [(0, .ref x0), (1, .ref x1), (2, .int 0)]) [1, 2, 0] rfl ?_
      exact S_X3_copyFrom_201 FU x0 x1 0 hx0 hx1 I L _ h
    · rw [if_neg c1] at h
      refine E_aload_n (M := mX3_copyFrom) 179 rfl dX3_copyFrom_178 rfl 0 rfl ?_
      refine E_gR (M := mX3_copyFrom) (x0 + 3) 182 rfl dX3_copyFrom_179 (sh_H hx0) fl_X3_36 rfl (rt_H6 hx0) (H_lt hx0 3 (by decide)) ?_
      refine E_iload_n (M := mX3_copyFrom) 183 rfl dX3_copyFrom_182 rfl 2 rfl ?_
      replace h := Option.bind_eq_some_iff.mp h
      obtain ⟨v2, hv2, h⟩ := h
      refine E_ldE (M := mX3_copyFrom) hx0 184 rfl dX3_copyFrom_183 hv2 ?_
      refine E_aload_n (M := mX3_copyFrom) 185 rfl dX3_copyFrom_184 rfl 1 rfl ?_
      refine E_gR (M := mX3_copyFrom) (x1 + 3) 188 rfl dX3_copyFrom_185 (sh_H hx1) fl_X3_36 rfl (rt_H6 hx1) (H_lt hx1 3 (by decide)) ?_
      refine E_iload_n (M := mX3_copyFrom) 189 rfl dX3_copyFrom_188 rfl 2 rfl ?_
      replace h := Option.bind_eq_some_iff.mp h
      obtain ⟨v3, hv3, h⟩ := h
      refine E_ldE (M := mX3_copyFrom) hx1 190 rfl dX3_copyFrom_189 hv3 ?_
      replace h := Option.bind_eq_some_iff.mp h
      obtain ⟨w4, hw4, h⟩ := h
      refine E_cV0 (M := mX3_copyFrom) (As := [.ref v3]) 193 rfl dX3_copyFrom_190 (sh_E (isE_ld hx0 hv2)) ck_X3_98 cv_X2_copyFrom rfl (by decide) (Nat.le_of_ble_eq_true rfl) (C_X2_copyFrom (g := g) (isE_ld hx0 hv2) (isE_ld hx1 hv3) hw4) rfl ?_
      refine E_iinc (M := mX3_copyFrom) (j := 2) (v := x2 + 1) (lv' := [(2, .int (x2 + 1)), (0, .ref x0), (1, .ref x1)]) 196 rfl dX3_copyFrom_193 rfl rfl (Nat.le_of_ble_eq_true rfl) rfl ?_
      refine E_goto (M := mX3_copyFrom) 172 (by decide) dX3_copyFrom_196 ?_
      refine E_sub (M := mX3_copyFrom) (lv' := [(0, .ref x0), (1, .ref x1), (2, .int (x2 + 1))]) [1, 2, 0] rfl ?_
      exact ih x0 x1 (x2 + 1) hx0 hx1 w4.1 w4.2 _ h
def f_X3_copyFrom_143 : Nat → Nat → Nat → Int32 → MI → ML → Option (MI × ML)
  | 0, _, _, _, _, _ => none
  | n + 1, x0, x1, x2, I, L => if 14 ≤ x2 then (f_X3_copyFrom_172 FU x0 x1 0 I L) else (Option.bind (ldR (x0 + 13) 14 x2) fun v2 => Option.bind (ldR (x1 + 13) 14 x2) fun v3 => Option.bind (f_X1_copyFrom v2 v3 I L) fun w4 => f_X3_copyFrom_143 n x0 x1 (x2 + 1) w4.1 w4.2)
set_option maxRecDepth 100000 in
theorem S_X3_copyFrom_143 {g : Gx} : ∀ (n : Nat) (x0 : Nat) (x1 : Nat) (x2 : Int32) (hx0 : isH x0) (hx1 : isH x1) (I : MI) (L : ML) (res : MI × ML), f_X3_copyFrom_143 n x0 x1 x2 I L = some res → E g 6 0 mX3_copyFrom 143 [(0, .ref x0), (1, .ref x1), (2, .int x2)] [] (I, L) (.inl none) (res.1, res.2) := by
  intro n
  induction n with
  | zero =>
    intros
    rename_i h
    cases h
  | succ n ih =>
    intro x0 x1 x2 hx0 hx1 I L res h
    rw [f_X3_copyFrom_143] at h
    refine E_iload_n (M := mX3_copyFrom) 144 rfl dX3_copyFrom_143 rfl 2 rfl ?_
    refine E_bipush (M := mX3_copyFrom) (v := 14) 146 rfl dX3_copyFrom_144 (by decide) ?_
    refine E_icmp_ge (M := mX3_copyFrom) 170 149 (by decide) rfl dX3_copyFrom_146 (fun c1 => ?_) (fun c1 => ?_)
    · rw [if_pos c1] at h
      refine E_iconst (M := mX3_copyFrom) (v := 0) 171 rfl dX3_copyFrom_170 (by decide) ?_
      refine E_istore_n (M := mX3_copyFrom) (lv' := [(2, .int 0), (0, .ref x0), (1, .ref x1)]) 172 rfl dX3_copyFrom_171 rfl (Nat.le_of_ble_eq_true rfl) rfl ?_
      refine E_sub (M := mX3_copyFrom) (lv' := [(0, .ref x0), (1, .ref x1), (2, .int 0)]) [1, 2, 0] rfl ?_
      exact S_X3_copyFrom_172 FU x0 x1 0 hx0 hx1 I L _ h
    · rw [if_neg c1] at h
      refine E_aload_n (M := mX3_copyFrom) 150 rfl dX3_copyFrom_149 rfl 0 rfl ?_
      refine E_gR (M := mX3_copyFrom) (x0 + 2) 153 rfl dX3_copyFrom_150 (sh_H hx0) fl_X3_30 rfl (rt_H5 hx0) (H_lt hx0 2 (by decide)) ?_
      refine E_iload_n (M := mX3_copyFrom) 154 rfl dX3_copyFrom_153 rfl 2 rfl ?_
      replace h := Option.bind_eq_some_iff.mp h
      obtain ⟨v2, hv2, h⟩ := h
      refine E_ldD (M := mX3_copyFrom) hx0 155 rfl dX3_copyFrom_154 hv2 ?_
      refine E_aload_n (M := mX3_copyFrom) 156 rfl dX3_copyFrom_155 rfl 1 rfl ?_
      refine E_gR (M := mX3_copyFrom) (x1 + 2) 159 rfl dX3_copyFrom_156 (sh_H hx1) fl_X3_30 rfl (rt_H5 hx1) (H_lt hx1 2 (by decide)) ?_
      refine E_iload_n (M := mX3_copyFrom) 160 rfl dX3_copyFrom_159 rfl 2 rfl ?_
      replace h := Option.bind_eq_some_iff.mp h
      obtain ⟨v3, hv3, h⟩ := h
      refine E_ldD (M := mX3_copyFrom) hx1 161 rfl dX3_copyFrom_160 hv3 ?_
      replace h := Option.bind_eq_some_iff.mp h
      obtain ⟨w4, hw4, h⟩ := h
      refine E_cV0 (M := mX3_copyFrom) (As := [.ref v3]) 164 rfl dX3_copyFrom_161 (sh_D (isD_ld hx0 hv2)) ck_X3_94 cv_X1_copyFrom rfl (by decide) (Nat.le_of_ble_eq_true rfl) (C_X1_copyFrom (g := g) (isD_ld hx0 hv2) (isD_ld hx1 hv3) hw4) rfl ?_
      refine E_iinc (M := mX3_copyFrom) (j := 2) (v := x2 + 1) (lv' := [(2, .int (x2 + 1)), (0, .ref x0), (1, .ref x1)]) 167 rfl dX3_copyFrom_164 rfl rfl (Nat.le_of_ble_eq_true rfl) rfl ?_
      refine E_goto (M := mX3_copyFrom) 143 (by decide) dX3_copyFrom_167 ?_
      refine E_sub (M := mX3_copyFrom) (lv' := [(0, .ref x0), (1, .ref x1), (2, .int (x2 + 1))]) [1, 2, 0] rfl ?_
      exact ih x0 x1 (x2 + 1) hx0 hx1 w4.1 w4.2 _ h
def f_X3_copyFrom (x0 : Nat) (x1 : Nat) (I : MI) (L : ML) : Option (MI × ML) := Option.bind (pfI I x0 0 (I x1 0)) fun I1 => Option.bind (pfI I1 x0 1 (I1 x1 1)) fun I2 => Option.bind (pfI I2 x0 2 (I2 x1 2)) fun I3 => Option.bind (pfI I3 x0 3 (I3 x1 3)) fun I4 => Option.bind (pfI I4 x0 11 (I4 x1 11)) fun I5 => Option.bind (pfI I5 x0 12 (I5 x1 12)) fun I6 => Option.bind (pfI I6 x0 13 (I6 x1 13)) fun I7 => Option.bind (pfI I7 x0 14 (bI (I7 x1 14 != 0))) fun I8 => Option.bind (pfI I8 x0 15 (I8 x1 15)) fun I9 => Option.bind (pfI I9 x0 16 (I9 x1 16)) fun I10 => Option.bind (pfI I10 x0 17 (I10 x1 17)) fun I11 => Option.bind (pfI I11 x0 18 (I11 x1 18)) fun I12 => Option.bind (cyI I12 (x1 + 1) 10 (x0 + 1) 10 10) fun I13 => Option.bind (cyI I13 (x1 + 11) 100 (x0 + 11) 100 100) fun I14 => Option.bind (cyL L (x1 + 12) 40 (x0 + 12) 40 40) fun L15 => f_X3_copyFrom_143 FU x0 x1 0 I14 L15
set_option maxRecDepth 100000 in
theorem S_X3_copyFrom {g : Gx} (x0 : Nat) (x1 : Nat) (hx0 : isH x0) (hx1 : isH x1) (I : MI) (L : ML) (res : MI × ML) (h : f_X3_copyFrom x0 x1 I L = some res) : E g 6 0 mX3_copyFrom 0 [(0, .ref x0), (1, .ref x1)] [] (I, L) (.inl none) (res.1, res.2) := by
  unfold f_X3_copyFrom at h
  refine E_aload_n (M := mX3_copyFrom) 1 rfl dX3_copyFrom_0 rfl 0 rfl ?_
  refine E_aload_n (M := mX3_copyFrom) 2 rfl dX3_copyFrom_1 rfl 1 rfl ?_
  refine E_gI (M := mX3_copyFrom) 5 rfl dX3_copyFrom_2 (sh_H hx1) fl_X3_9 rfl ?_
  replace h := Option.bind_eq_some_iff.mp h
  obtain ⟨I1, hI1, h⟩ := h
  refine E_pfI (M := mX3_copyFrom) 8 rfl dX3_copyFrom_5 (sh_H hx0) fl_X3_9 rfl hI1 ?_
  refine E_aload_n (M := mX3_copyFrom) 9 rfl dX3_copyFrom_8 rfl 0 rfl ?_
  refine E_aload_n (M := mX3_copyFrom) 10 rfl dX3_copyFrom_9 rfl 1 rfl ?_
  refine E_gI (M := mX3_copyFrom) 13 rfl dX3_copyFrom_10 (sh_H hx1) fl_X3_15 rfl ?_
  replace h := Option.bind_eq_some_iff.mp h
  obtain ⟨I2, hI2, h⟩ := h
  refine E_pfI (M := mX3_copyFrom) 16 rfl dX3_copyFrom_13 (sh_H hx0) fl_X3_15 rfl hI2 ?_
  refine E_aload_n (M := mX3_copyFrom) 17 rfl dX3_copyFrom_16 rfl 0 rfl ?_
  refine E_aload_n (M := mX3_copyFrom) 18 rfl dX3_copyFrom_17 rfl 1 rfl ?_
  refine E_gI (M := mX3_copyFrom) 21 rfl dX3_copyFrom_18 (sh_H hx1) fl_X3_18 rfl ?_
  replace h := Option.bind_eq_some_iff.mp h
  obtain ⟨I3, hI3, h⟩ := h
  refine E_pfI (M := mX3_copyFrom) 24 rfl dX3_copyFrom_21 (sh_H hx0) fl_X3_18 rfl hI3 ?_
  refine E_aload_n (M := mX3_copyFrom) 25 rfl dX3_copyFrom_24 rfl 0 rfl ?_
  refine E_aload_n (M := mX3_copyFrom) 26 rfl dX3_copyFrom_25 rfl 1 rfl ?_
  refine E_gI (M := mX3_copyFrom) 29 rfl dX3_copyFrom_26 (sh_H hx1) fl_X3_21 rfl ?_
  replace h := Option.bind_eq_some_iff.mp h
  obtain ⟨I4, hI4, h⟩ := h
  refine E_pfI (M := mX3_copyFrom) 32 rfl dX3_copyFrom_29 (sh_H hx0) fl_X3_21 rfl hI4 ?_
  refine E_aload_n (M := mX3_copyFrom) 33 rfl dX3_copyFrom_32 rfl 0 rfl ?_
  refine E_aload_n (M := mX3_copyFrom) 34 rfl dX3_copyFrom_33 rfl 1 rfl ?_
  refine E_gI (M := mX3_copyFrom) 37 rfl dX3_copyFrom_34 (sh_H hx1) fl_X3_60 rfl ?_
  replace h := Option.bind_eq_some_iff.mp h
  obtain ⟨I5, hI5, h⟩ := h
  refine E_pfI (M := mX3_copyFrom) 40 rfl dX3_copyFrom_37 (sh_H hx0) fl_X3_60 rfl hI5 ?_
  refine E_aload_n (M := mX3_copyFrom) 41 rfl dX3_copyFrom_40 rfl 0 rfl ?_
  refine E_aload_n (M := mX3_copyFrom) 42 rfl dX3_copyFrom_41 rfl 1 rfl ?_
  refine E_gI (M := mX3_copyFrom) 45 rfl dX3_copyFrom_42 (sh_H hx1) fl_X3_63 rfl ?_
  replace h := Option.bind_eq_some_iff.mp h
  obtain ⟨I6, hI6, h⟩ := h
  refine E_pfI (M := mX3_copyFrom) 48 rfl dX3_copyFrom_45 (sh_H hx0) fl_X3_63 rfl hI6 ?_
  refine E_aload_n (M := mX3_copyFrom) 49 rfl dX3_copyFrom_48 rfl 0 rfl ?_
  refine E_aload_n (M := mX3_copyFrom) 50 rfl dX3_copyFrom_49 rfl 1 rfl ?_
  refine E_gI (M := mX3_copyFrom) 53 rfl dX3_copyFrom_50 (sh_H hx1) fl_X3_66 rfl ?_
  replace h := Option.bind_eq_some_iff.mp h
  obtain ⟨I7, hI7, h⟩ := h
  refine E_pfI (M := mX3_copyFrom) 56 rfl dX3_copyFrom_53 (sh_H hx0) fl_X3_66 rfl hI7 ?_
  refine E_aload_n (M := mX3_copyFrom) 57 rfl dX3_copyFrom_56 rfl 0 rfl ?_
  refine E_aload_n (M := mX3_copyFrom) 58 rfl dX3_copyFrom_57 rfl 1 rfl ?_
  refine E_gB (M := mX3_copyFrom) 61 rfl dX3_copyFrom_58 (sh_H hx1) fl_X3_69 rfl ?_
  replace h := Option.bind_eq_some_iff.mp h
  obtain ⟨I8, hI8, h⟩ := h
  refine E_pfB (M := mX3_copyFrom) (x := I7 x1 14 != 0) 64 rfl dX3_copyFrom_61 (sh_H hx0) fl_X3_69 rfl hI8 ?_
  refine E_aload_n (M := mX3_copyFrom) 65 rfl dX3_copyFrom_64 rfl 0 rfl ?_
  refine E_aload_n (M := mX3_copyFrom) 66 rfl dX3_copyFrom_65 rfl 1 rfl ?_
  refine E_gI (M := mX3_copyFrom) 69 rfl dX3_copyFrom_66 (sh_H hx1) fl_X3_73 rfl ?_
  replace h := Option.bind_eq_some_iff.mp h
  obtain ⟨I9, hI9, h⟩ := h
  refine E_pfI (M := mX3_copyFrom) 72 rfl dX3_copyFrom_69 (sh_H hx0) fl_X3_73 rfl hI9 ?_
  refine E_aload_n (M := mX3_copyFrom) 73 rfl dX3_copyFrom_72 rfl 0 rfl ?_
  refine E_aload_n (M := mX3_copyFrom) 74 rfl dX3_copyFrom_73 rfl 1 rfl ?_
  refine E_gI (M := mX3_copyFrom) 77 rfl dX3_copyFrom_74 (sh_H hx1) fl_X3_76 rfl ?_
  replace h := Option.bind_eq_some_iff.mp h
  obtain ⟨I10, hI10, h⟩ := h
  refine E_pfI (M := mX3_copyFrom) 80 rfl dX3_copyFrom_77 (sh_H hx0) fl_X3_76 rfl hI10 ?_
  refine E_aload_n (M := mX3_copyFrom) 81 rfl dX3_copyFrom_80 rfl 0 rfl ?_
  refine E_aload_n (M := mX3_copyFrom) 82 rfl dX3_copyFrom_81 rfl 1 rfl ?_
  refine E_gI (M := mX3_copyFrom) 85 rfl dX3_copyFrom_82 (sh_H hx1) fl_X3_79 rfl ?_
  replace h := Option.bind_eq_some_iff.mp h
  obtain ⟨I11, hI11, h⟩ := h
  refine E_pfI (M := mX3_copyFrom) 88 rfl dX3_copyFrom_85 (sh_H hx0) fl_X3_79 rfl hI11 ?_
  refine E_aload_n (M := mX3_copyFrom) 89 rfl dX3_copyFrom_88 rfl 0 rfl ?_
  refine E_aload_n (M := mX3_copyFrom) 90 rfl dX3_copyFrom_89 rfl 1 rfl ?_
  refine E_gI (M := mX3_copyFrom) 93 rfl dX3_copyFrom_90 (sh_H hx1) fl_X3_82 rfl ?_
  replace h := Option.bind_eq_some_iff.mp h
  obtain ⟨I12, hI12, h⟩ := h
  refine E_pfI (M := mX3_copyFrom) 96 rfl dX3_copyFrom_93 (sh_H hx0) fl_X3_82 rfl hI12 ?_
  refine E_aload_n (M := mX3_copyFrom) 97 rfl dX3_copyFrom_96 rfl 1 rfl ?_
  refine E_gR (M := mX3_copyFrom) (x1 + 1) 100 rfl dX3_copyFrom_97 (sh_H hx1) fl_X3_24 rfl (rt_H4 hx1) (H_lt hx1 1 (by decide)) ?_
  refine E_iconst (M := mX3_copyFrom) (v := 0) 101 rfl dX3_copyFrom_100 (by decide) ?_
  refine E_aload_n (M := mX3_copyFrom) 102 rfl dX3_copyFrom_101 rfl 0 rfl ?_
  refine E_gR (M := mX3_copyFrom) (x0 + 1) 105 rfl dX3_copyFrom_102 (sh_H hx0) fl_X3_24 rfl (rt_H4 hx0) (H_lt hx0 1 (by decide)) ?_
  refine E_iconst (M := mX3_copyFrom) (v := 0) 106 rfl dX3_copyFrom_105 (by decide) ?_
  refine E_bipush (M := mX3_copyFrom) (v := 10) 108 rfl dX3_copyFrom_106 (by decide) ?_
  replace h := Option.bind_eq_some_iff.mp h
  obtain ⟨I13, hI13, h⟩ := h
  refine E_cyI (M := mX3_copyFrom) 111 rfl dX3_copyFrom_108 ac_X3_88 (sh_H1 hx1) (sh_H1 hx0) (by decide) (Nat.le_of_ble_eq_true rfl) hI13 ?_
  refine E_aload_n (M := mX3_copyFrom) 112 rfl dX3_copyFrom_111 rfl 1 rfl ?_
  refine E_gR (M := mX3_copyFrom) (x1 + 11) 115 rfl dX3_copyFrom_112 (sh_H hx1) fl_X3_53 rfl (rt_H9 hx1) (H_lt hx1 11 (by decide)) ?_
  refine E_iconst (M := mX3_copyFrom) (v := 0) 116 rfl dX3_copyFrom_115 (by decide) ?_
  refine E_aload_n (M := mX3_copyFrom) 117 rfl dX3_copyFrom_116 rfl 0 rfl ?_
  refine E_gR (M := mX3_copyFrom) (x0 + 11) 120 rfl dX3_copyFrom_117 (sh_H hx0) fl_X3_53 rfl (rt_H9 hx0) (H_lt hx0 11 (by decide)) ?_
  refine E_iconst (M := mX3_copyFrom) (v := 0) 121 rfl dX3_copyFrom_120 (by decide) ?_
  refine E_bipush (M := mX3_copyFrom) (v := 100) 123 rfl dX3_copyFrom_121 (by decide) ?_
  replace h := Option.bind_eq_some_iff.mp h
  obtain ⟨I14, hI14, h⟩ := h
  refine E_cyI (M := mX3_copyFrom) 126 rfl dX3_copyFrom_123 ac_X3_88 (sh_H11 hx1) (sh_H11 hx0) (by decide) (Nat.le_of_ble_eq_true rfl) hI14 ?_
  refine E_aload_n (M := mX3_copyFrom) 127 rfl dX3_copyFrom_126 rfl 1 rfl ?_
  refine E_gR (M := mX3_copyFrom) (x1 + 12) 130 rfl dX3_copyFrom_127 (sh_H hx1) fl_X3_56 rfl (rt_H10 hx1) (H_lt hx1 12 (by decide)) ?_
  refine E_iconst (M := mX3_copyFrom) (v := 0) 131 rfl dX3_copyFrom_130 (by decide) ?_
  refine E_aload_n (M := mX3_copyFrom) 132 rfl dX3_copyFrom_131 rfl 0 rfl ?_
  refine E_gR (M := mX3_copyFrom) (x0 + 12) 135 rfl dX3_copyFrom_132 (sh_H hx0) fl_X3_56 rfl (rt_H10 hx0) (H_lt hx0 12 (by decide)) ?_
  refine E_iconst (M := mX3_copyFrom) (v := 0) 136 rfl dX3_copyFrom_135 (by decide) ?_
  refine E_bipush (M := mX3_copyFrom) (v := 40) 138 rfl dX3_copyFrom_136 (by decide) ?_
  replace h := Option.bind_eq_some_iff.mp h
  obtain ⟨L15, hL15, h⟩ := h
  refine E_cyL (M := mX3_copyFrom) 141 rfl dX3_copyFrom_138 ac_X3_88 (sh_H12 hx1) (sh_H12 hx0) (by decide) (Nat.le_of_ble_eq_true rfl) hL15 ?_
  refine E_iconst (M := mX3_copyFrom) (v := 0) 142 rfl dX3_copyFrom_141 (by decide) ?_
  refine E_istore_n (M := mX3_copyFrom) (lv' := [(2, .int 0), (0, .ref x0), (1, .ref x1)]) 143 rfl dX3_copyFrom_142 rfl (Nat.le_of_ble_eq_true rfl) rfl ?_
  refine E_sub (M := mX3_copyFrom) (lv' := [(0, .ref x0), (1, .ref x1), (2, .int 0)]) [1, 2, 0] rfl ?_
  exact S_X3_copyFrom_143 FU x0 x1 0 hx0 hx1 I14 L15 _ h
theorem C_X3_copyFrom {g : Gx} {x0 : Nat} {x1 : Nat} (hx0 : isH x0) (hx1 : isH x1) {I : MI} {L : ML} {res : MI × ML} (h : f_X3_copyFrom x0 x1 I L = some res) : Ent g 6 0 mX3_copyFrom [.ref x0, .ref x1] (I, L) (.inl none) (res.1, res.2) := Ent_of (by decide +kernel) (Nat.le_of_ble_eq_true rfl) (S_X3_copyFrom x0 x1 hx0 hx1 I L _ h)
def f_X3_addRoom_29 (I : MI) (L : ML) : Option (MI × ML) := some (I, L)
set_option maxRecDepth 100000 in
theorem S_X3_addRoom_29 {g : Gx} (I : MI) (L : ML) (res : MI × ML) (h : f_X3_addRoom_29 I L = some res) : E g 1 0 mX3_addRoom 29 [] [] (I, L) (.inl none) (res.1, res.2) := by
  unfold f_X3_addRoom_29 at h
  cases h
  exact E_vret (M := mX3_addRoom) rfl dX3_addRoom_29
def f_X3_addRoom (x0 : Nat) (x1 : Int32) (I : MI) (L : ML) : Option (MI × ML) := if 10 ≤ (I x0 0) then (f_X3_addRoom_29 I L) else (Option.bind (stI I (x0 + 1) 10 (I x0 0) x1) fun I2 => Option.bind (pfI I2 x0 0 ((I2 x0 0) + 1)) fun I3 => f_X3_addRoom_29 I3 L)
set_option maxRecDepth 100000 in
theorem S_X3_addRoom {g : Gx} (x0 : Nat) (x1 : Int32) (hx0 : isH x0) (I : MI) (L : ML) (res : MI × ML) (h : f_X3_addRoom x0 x1 I L = some res) : E g 1 0 mX3_addRoom 0 [(0, .ref x0), (1, .int x1)] [] (I, L) (.inl none) (res.1, res.2) := by
  unfold f_X3_addRoom at h
  refine E_aload_n (M := mX3_addRoom) 1 rfl dX3_addRoom_0 rfl 0 rfl ?_
  refine E_gI (M := mX3_addRoom) 4 rfl dX3_addRoom_1 (sh_H hx0) fl_X3_9 rfl ?_
  refine E_bipush (M := mX3_addRoom) (v := 10) 6 rfl dX3_addRoom_4 (by decide) ?_
  refine E_icmp_ge (M := mX3_addRoom) 29 9 (by decide) rfl dX3_addRoom_6 (fun c1 => ?_) (fun c1 => ?_)
  · rw [if_pos c1] at h
    refine E_sub (M := mX3_addRoom) (lv' := []) [] rfl ?_
    exact S_X3_addRoom_29 I L _ h
  · rw [if_neg c1] at h
    refine E_aload_n (M := mX3_addRoom) 10 rfl dX3_addRoom_9 rfl 0 rfl ?_
    refine E_gR (M := mX3_addRoom) (x0 + 1) 13 rfl dX3_addRoom_10 (sh_H hx0) fl_X3_24 rfl (rt_H4 hx0) (H_lt hx0 1 (by decide)) ?_
    refine E_aload_n (M := mX3_addRoom) 14 rfl dX3_addRoom_13 rfl 0 rfl ?_
    refine E_gI (M := mX3_addRoom) 17 rfl dX3_addRoom_14 (sh_H hx0) fl_X3_9 rfl ?_
    refine E_iload_n (M := mX3_addRoom) 18 rfl dX3_addRoom_17 rfl 1 rfl ?_
    replace h := Option.bind_eq_some_iff.mp h
    obtain ⟨I2, hI2, h⟩ := h
    refine E_stI (M := mX3_addRoom) 19 rfl dX3_addRoom_18 (sh_H1 hx0) hI2 ?_
    refine E_aload_n (M := mX3_addRoom) 20 rfl dX3_addRoom_19 rfl 0 rfl ?_
    refine E_dup (M := mX3_addRoom) 21 rfl dX3_addRoom_20 rfl ?_
    refine E_gI (M := mX3_addRoom) 24 rfl dX3_addRoom_21 (sh_H hx0) fl_X3_9 rfl ?_
    refine E_iconst (M := mX3_addRoom) (v := 1) 25 rfl dX3_addRoom_24 (by decide) ?_
    refine E_iadd (M := mX3_addRoom) 26 rfl dX3_addRoom_25 ?_
    replace h := Option.bind_eq_some_iff.mp h
    obtain ⟨I3, hI3, h⟩ := h
    refine E_pfI (M := mX3_addRoom) 29 rfl dX3_addRoom_26 (sh_H hx0) fl_X3_9 rfl hI3 ?_
    refine E_sub (M := mX3_addRoom) (lv' := []) [] rfl ?_
    exact S_X3_addRoom_29 I3 L _ h
theorem C_X3_addRoom {g : Gx} {x0 : Nat} {x1 : Int32} (hx0 : isH x0) {I : MI} {L : ML} {res : MI × ML} (h : f_X3_addRoom x0 x1 I L = some res) : Ent g 1 0 mX3_addRoom [.ref x0, .int x1] (I, L) (.inl none) (res.1, res.2) := Ent_of (by decide +kernel) (Nat.le_of_ble_eq_true rfl) (S_X3_addRoom x0 x1 hx0 I L _ h)
def f_X3_addDoor_48 (I : MI) (L : ML) : Option (MI × ML) := some (I, L)
set_option maxRecDepth 100000 in
theorem S_X3_addDoor_48 {g : Gx} (I : MI) (L : ML) (res : MI × ML) (h : f_X3_addDoor_48 I L = some res) : E g 1 0 mX3_addDoor 48 [] [] (I, L) (.inl none) (res.1, res.2) := by
  unfold f_X3_addDoor_48 at h
  cases h
  exact E_vret (M := mX3_addDoor) rfl dX3_addDoor_48
def f_X3_addDoor (x0 : Nat) (x1 : Int32) (x2 : Int32) (x3 : Int32) (I : MI) (L : ML) : Option (MI × ML) := if 14 ≤ (I x0 1) then (f_X3_addDoor_48 I L) else (Option.bind (ldR (x0 + 13) 14 (I x0 1)) fun v2 => Option.bind (pfI I v2 0 x1) fun I3 => Option.bind (pfI I3 v2 1 x2) fun I4 => Option.bind (pfI I4 v2 2 x3) fun I5 => Option.bind (pfI I5 x0 1 ((I5 x0 1) + 1)) fun I6 => f_X3_addDoor_48 I6 L)
set_option maxRecDepth 100000 in
theorem S_X3_addDoor {g : Gx} (x0 : Nat) (x1 : Int32) (x2 : Int32) (x3 : Int32) (hx0 : isH x0) (I : MI) (L : ML) (res : MI × ML) (h : f_X3_addDoor x0 x1 x2 x3 I L = some res) : E g 1 0 mX3_addDoor 0 [(0, .ref x0), (1, .int x1), (2, .int x2), (3, .int x3)] [] (I, L) (.inl none) (res.1, res.2) := by
  unfold f_X3_addDoor at h
  refine E_aload_n (M := mX3_addDoor) 1 rfl dX3_addDoor_0 rfl 0 rfl ?_
  refine E_gI (M := mX3_addDoor) 4 rfl dX3_addDoor_1 (sh_H hx0) fl_X3_15 rfl ?_
  refine E_bipush (M := mX3_addDoor) (v := 14) 6 rfl dX3_addDoor_4 (by decide) ?_
  refine E_icmp_ge (M := mX3_addDoor) 48 9 (by decide) rfl dX3_addDoor_6 (fun c1 => ?_) (fun c1 => ?_)
  · rw [if_pos c1] at h
    refine E_sub (M := mX3_addDoor) (lv' := []) [] rfl ?_
    exact S_X3_addDoor_48 I L _ h
  · rw [if_neg c1] at h
    refine E_aload_n (M := mX3_addDoor) 10 rfl dX3_addDoor_9 rfl 0 rfl ?_
    refine E_gR (M := mX3_addDoor) (x0 + 2) 13 rfl dX3_addDoor_10 (sh_H hx0) fl_X3_30 rfl (rt_H5 hx0) (H_lt hx0 2 (by decide)) ?_
    refine E_aload_n (M := mX3_addDoor) 14 rfl dX3_addDoor_13 rfl 0 rfl ?_
    refine E_gI (M := mX3_addDoor) 17 rfl dX3_addDoor_14 (sh_H hx0) fl_X3_15 rfl ?_
    replace h := Option.bind_eq_some_iff.mp h
    obtain ⟨v2, hv2, h⟩ := h
    refine E_ldD (M := mX3_addDoor) hx0 18 rfl dX3_addDoor_17 hv2 ?_
    refine E_astore (M := mX3_addDoor) (lv' := [(4, .ref v2), (0, .ref x0), (1, .int x1), (2, .int x2), (3, .int x3)]) 20 rfl dX3_addDoor_18 (Nat.le_of_ble_eq_true rfl) rfl ?_
    refine E_aload (M := mX3_addDoor) 22 rfl dX3_addDoor_20 0 rfl ?_
    refine E_iload_n (M := mX3_addDoor) 23 rfl dX3_addDoor_22 rfl 2 rfl ?_
    replace h := Option.bind_eq_some_iff.mp h
    obtain ⟨I3, hI3, h⟩ := h
    refine E_pfI (M := mX3_addDoor) 26 rfl dX3_addDoor_23 (sh_D (isD_ld hx0 hv2)) fl_X3_107 rfl hI3 ?_
    refine E_aload (M := mX3_addDoor) 28 rfl dX3_addDoor_26 0 rfl ?_
    refine E_iload_n (M := mX3_addDoor) 29 rfl dX3_addDoor_28 rfl 3 rfl ?_
    replace h := Option.bind_eq_some_iff.mp h
    obtain ⟨I4, hI4, h⟩ := h
    refine E_pfI (M := mX3_addDoor) 32 rfl dX3_addDoor_29 (sh_D (isD_ld hx0 hv2)) fl_X3_110 rfl hI4 ?_
    refine E_aload (M := mX3_addDoor) 34 rfl dX3_addDoor_32 0 rfl ?_
    refine E_iload_n (M := mX3_addDoor) 35 rfl dX3_addDoor_34 rfl 4 rfl ?_
    replace h := Option.bind_eq_some_iff.mp h
    obtain ⟨I5, hI5, h⟩ := h
    refine E_pfI (M := mX3_addDoor) 38 rfl dX3_addDoor_35 (sh_D (isD_ld hx0 hv2)) fl_X3_113 rfl hI5 ?_
    refine E_aload_n (M := mX3_addDoor) 39 rfl dX3_addDoor_38 rfl 1 rfl ?_
    refine E_dup (M := mX3_addDoor) 40 rfl dX3_addDoor_39 rfl ?_
    refine E_gI (M := mX3_addDoor) 43 rfl dX3_addDoor_40 (sh_H hx0) fl_X3_15 rfl ?_
    refine E_iconst (M := mX3_addDoor) (v := 1) 44 rfl dX3_addDoor_43 (by decide) ?_
    refine E_iadd (M := mX3_addDoor) 45 rfl dX3_addDoor_44 ?_
    replace h := Option.bind_eq_some_iff.mp h
    obtain ⟨I6, hI6, h⟩ := h
    refine E_pfI (M := mX3_addDoor) 48 rfl dX3_addDoor_45 (sh_H hx0) fl_X3_15 rfl hI6 ?_
    refine E_sub (M := mX3_addDoor) (lv' := []) [] rfl ?_
    exact S_X3_addDoor_48 I6 L _ h
theorem C_X3_addDoor {g : Gx} {x0 : Nat} {x1 : Int32} {x2 : Int32} {x3 : Int32} (hx0 : isH x0) {I : MI} {L : ML} {res : MI × ML} (h : f_X3_addDoor x0 x1 x2 x3 I L = some res) : Ent g 1 0 mX3_addDoor [.ref x0, .int x1, .int x2, .int x3] (I, L) (.inl none) (res.1, res.2) := Ent_of (by decide +kernel) (Nat.le_of_ble_eq_true rfl) (S_X3_addDoor x0 x1 x2 x3 hx0 I L _ h)
def f_X3_addHeir_45 (I : MI) (L : ML) : Option (MI × ML) := some (I, L)
set_option maxRecDepth 100000 in
theorem S_X3_addHeir_45 {g : Gx} (I : MI) (L : ML) (res : MI × ML) (h : f_X3_addHeir_45 I L = some res) : E g 1 0 mX3_addHeir 45 [] [] (I, L) (.inl none) (res.1, res.2) := by
  unfold f_X3_addHeir_45 at h
  cases h
  exact E_vret (M := mX3_addHeir) rfl dX3_addHeir_45
def f_X3_addHeir (x0 : Nat) (x1 : Int32) (x2 : Int32) (I : MI) (L : ML) : Option (MI × ML) := if 6 ≤ (I x0 2) then (f_X3_addHeir_45 I L) else (Option.bind (ldR (x0 + 27) 6 (I x0 2)) fun v2 => Option.bind (pfI I v2 0 x1) fun I3 => Option.bind (ldR (x0 + 27) 6 (I3 x0 2)) fun v4 => Option.bind (pfI I3 v4 1 x2) fun I5 => Option.bind (pfI I5 x0 2 ((I5 x0 2) + 1)) fun I6 => f_X3_addHeir_45 I6 L)
set_option maxRecDepth 100000 in
theorem S_X3_addHeir {g : Gx} (x0 : Nat) (x1 : Int32) (x2 : Int32) (hx0 : isH x0) (I : MI) (L : ML) (res : MI × ML) (h : f_X3_addHeir x0 x1 x2 I L = some res) : E g 1 0 mX3_addHeir 0 [(0, .ref x0), (1, .int x1), (2, .int x2)] [] (I, L) (.inl none) (res.1, res.2) := by
  unfold f_X3_addHeir at h
  refine E_aload_n (M := mX3_addHeir) 1 rfl dX3_addHeir_0 rfl 0 rfl ?_
  refine E_gI (M := mX3_addHeir) 4 rfl dX3_addHeir_1 (sh_H hx0) fl_X3_18 rfl ?_
  refine E_bipush (M := mX3_addHeir) (v := 6) 6 rfl dX3_addHeir_4 (by decide) ?_
  refine E_icmp_ge (M := mX3_addHeir) 45 9 (by decide) rfl dX3_addHeir_6 (fun c1 => ?_) (fun c1 => ?_)
  · rw [if_pos c1] at h
    refine E_sub (M := mX3_addHeir) (lv' := []) [] rfl ?_
    exact S_X3_addHeir_45 I L _ h
  · rw [if_neg c1] at h
    refine E_aload_n (M := mX3_addHeir) 10 rfl dX3_addHeir_9 rfl 0 rfl ?_
    refine E_gR (M := mX3_addHeir) (x0 + 3) 13 rfl dX3_addHeir_10 (sh_H hx0) fl_X3_36 rfl (rt_H6 hx0) (H_lt hx0 3 (by decide)) ?_
    refine E_aload_n (M := mX3_addHeir) 14 rfl dX3_addHeir_13 rfl 0 rfl ?_
    refine E_gI (M := mX3_addHeir) 17 rfl dX3_addHeir_14 (sh_H hx0) fl_X3_18 rfl ?_
    replace h := Option.bind_eq_some_iff.mp h
    obtain ⟨v2, hv2, h⟩ := h
    refine E_ldE (M := mX3_addHeir) hx0 18 rfl dX3_addHeir_17 hv2 ?_
    refine E_iload_n (M := mX3_addHeir) 19 rfl dX3_addHeir_18 rfl 1 rfl ?_
    replace h := Option.bind_eq_some_iff.mp h
    obtain ⟨I3, hI3, h⟩ := h
    refine E_pfI (M := mX3_addHeir) 22 rfl dX3_addHeir_19 (sh_E (isE_ld hx0 hv2)) fl_X3_116 rfl hI3 ?_
    refine E_aload_n (M := mX3_addHeir) 23 rfl dX3_addHeir_22 rfl 0 rfl ?_
    refine E_gR (M := mX3_addHeir) (x0 + 3) 26 rfl dX3_addHeir_23 (sh_H hx0) fl_X3_36 rfl (rt_H6 hx0) (H_lt hx0 3 (by decide)) ?_
    refine E_aload_n (M := mX3_addHeir) 27 rfl dX3_addHeir_26 rfl 0 rfl ?_
    refine E_gI (M := mX3_addHeir) 30 rfl dX3_addHeir_27 (sh_H hx0) fl_X3_18 rfl ?_
    replace h := Option.bind_eq_some_iff.mp h
    obtain ⟨v4, hv4, h⟩ := h
    refine E_ldE (M := mX3_addHeir) hx0 31 rfl dX3_addHeir_30 hv4 ?_
    refine E_iload_n (M := mX3_addHeir) 32 rfl dX3_addHeir_31 rfl 2 rfl ?_
    replace h := Option.bind_eq_some_iff.mp h
    obtain ⟨I5, hI5, h⟩ := h
    refine E_pfI (M := mX3_addHeir) 35 rfl dX3_addHeir_32 (sh_E (isE_ld hx0 hv4)) fl_X3_119 rfl hI5 ?_
    refine E_aload_n (M := mX3_addHeir) 36 rfl dX3_addHeir_35 rfl 0 rfl ?_
    refine E_dup (M := mX3_addHeir) 37 rfl dX3_addHeir_36 rfl ?_
    refine E_gI (M := mX3_addHeir) 40 rfl dX3_addHeir_37 (sh_H hx0) fl_X3_18 rfl ?_
    refine E_iconst (M := mX3_addHeir) (v := 1) 41 rfl dX3_addHeir_40 (by decide) ?_
    refine E_iadd (M := mX3_addHeir) 42 rfl dX3_addHeir_41 ?_
    replace h := Option.bind_eq_some_iff.mp h
    obtain ⟨I6, hI6, h⟩ := h
    refine E_pfI (M := mX3_addHeir) 45 rfl dX3_addHeir_42 (sh_H hx0) fl_X3_18 rfl hI6 ?_
    refine E_sub (M := mX3_addHeir) (lv' := []) [] rfl ?_
    exact S_X3_addHeir_45 I6 L _ h
theorem C_X3_addHeir {g : Gx} {x0 : Nat} {x1 : Int32} {x2 : Int32} (hx0 : isH x0) {I : MI} {L : ML} {res : MI × ML} (h : f_X3_addHeir x0 x1 x2 I L = some res) : Ent g 1 0 mX3_addHeir [.ref x0, .int x1, .int x2] (I, L) (.inl none) (res.1, res.2) := Ent_of (by decide +kernel) (Nat.le_of_ble_eq_true rfl) (S_X3_addHeir x0 x1 x2 hx0 I L _ h)
def f_X3_addNoise (x0 : Nat) (I : MI) (L : ML) : Option (Nat × MI × ML) := Option.bind (pfI I x0 3 ((if 11 < (I x0 3) then 11 else (I x0 3)) + 1)) fun I1 => Option.bind (ldR (x0 + 33) 12 (if 11 < (I x0 3) then 11 else (I x0 3))) fun v2 => some (v2, I1, L)
set_option maxRecDepth 100000 in
theorem S_X3_addNoise {g : Gx} (x0 : Nat) (hx0 : isH x0) (I : MI) (L : ML) (res : Nat × MI × ML) (h : f_X3_addNoise x0 I L = some res) : E g 5 0 mX3_addNoise 0 [(0, .ref x0)] [] (I, L) (.inl (some (.ref res.1))) (res.2.1, res.2.2) := by
  unfold f_X3_addNoise at h
  refine E_aload_n (M := mX3_addNoise) 1 rfl dX3_addNoise_0 rfl 0 rfl ?_
  refine E_gI (M := mX3_addNoise) 4 rfl dX3_addNoise_1 (sh_H hx0) fl_X3_21 rfl ?_
  refine E_bipush (M := mX3_addNoise) (v := 11) 6 rfl dX3_addNoise_4 (by decide) ?_
  refine E_min (M := mX3_addNoise) 9 rfl dX3_addNoise_6 jm_X3_122 (by decide) (Nat.le_of_ble_eq_true rfl) ?_
  refine E_istore_n (M := mX3_addNoise) (lv' := [(1, .int (if 11 < (I x0 3) then 11 else (I x0 3))), (0, .ref x0)]) 10 rfl dX3_addNoise_9 rfl (Nat.le_of_ble_eq_true rfl) rfl ?_
  refine E_aload_n (M := mX3_addNoise) 11 rfl dX3_addNoise_10 rfl 1 rfl ?_
  refine E_iload_n (M := mX3_addNoise) 12 rfl dX3_addNoise_11 rfl 0 rfl ?_
  refine E_iconst (M := mX3_addNoise) (v := 1) 13 rfl dX3_addNoise_12 (by decide) ?_
  refine E_iadd (M := mX3_addNoise) 14 rfl dX3_addNoise_13 ?_
  replace h := Option.bind_eq_some_iff.mp h
  obtain ⟨I1, hI1, h⟩ := h
  refine E_pfI (M := mX3_addNoise) 17 rfl dX3_addNoise_14 (sh_H hx0) fl_X3_21 rfl hI1 ?_
  refine E_aload_n (M := mX3_addNoise) 18 rfl dX3_addNoise_17 rfl 1 rfl ?_
  refine E_gR (M := mX3_addNoise) (x0 + 4) 21 rfl dX3_addNoise_18 (sh_H hx0) fl_X3_42 rfl (rt_H7 hx0) (H_lt hx0 4 (by decide)) ?_
  refine E_iload_n (M := mX3_addNoise) 22 rfl dX3_addNoise_21 rfl 0 rfl ?_
  replace h := Option.bind_eq_some_iff.mp h
  obtain ⟨v2, hv2, h⟩ := h
  refine E_ldN (M := mX3_addNoise) hx0 23 rfl dX3_addNoise_22 hv2 ?_
  cases h
  exact E_aret (M := mX3_addNoise) rfl dX3_addNoise_23
theorem C_X3_addNoise {g : Gx} {x0 : Nat} (hx0 : isH x0) {I : MI} {L : ML} {res : Nat × MI × ML} (h : f_X3_addNoise x0 I L = some res) : Ent g 5 0 mX3_addNoise [.ref x0] (I, L) (.inl (some (.ref res.1))) (res.2.1, res.2.2) := Ent_of (by decide +kernel) (Nat.le_of_ble_eq_true rfl) (S_X3_addNoise x0 hx0 I L _ h)
def f_X3_hasRoom_17 (y0 : Bool) (I : MI) (L : ML) : Option (Bool) := some y0
set_option maxRecDepth 100000 in
theorem S_X3_hasRoom_17 {g : Gx} (y0 : Bool) (I : MI) (L : ML) (res : Bool) (h : f_X3_hasRoom_17 y0 I L = some res) : E g 1 0 mX3_hasRoom 17 [] [.int (bI y0)] (I, L) (.inl (some (.int (bI res)))) (I, L) := by
  unfold f_X3_hasRoom_17 at h
  cases h
  exact E_zret (M := mX3_hasRoom) (x := y0) rfl dX3_hasRoom_17
def f_X3_hasRoom_16 (I : MI) (L : ML) : Option (Bool) := f_X3_hasRoom_17 false I L
set_option maxRecDepth 100000 in
theorem S_X3_hasRoom_16 {g : Gx} (I : MI) (L : ML) (res : Bool) (h : f_X3_hasRoom_16 I L = some res) : E g 1 0 mX3_hasRoom 16 [] [] (I, L) (.inl (some (.int (bI res)))) (I, L) := by
  unfold f_X3_hasRoom_16 at h
  refine E_iconst (M := mX3_hasRoom) (v := 0) 17 rfl dX3_hasRoom_16 (by decide) ?_
  refine E_sub (M := mX3_hasRoom) (lv' := []) [] rfl ?_
  exact S_X3_hasRoom_17 false I L _ h
def f_X3_hasRoom (x0 : Nat) (x1 : Int32) (I : MI) (L : ML) : Option (Bool) := if x1 < 0 then (f_X3_hasRoom_16 I L) else (if (I x0 0) ≤ x1 then (f_X3_hasRoom_16 I L) else (f_X3_hasRoom_17 true I L))
set_option maxRecDepth 100000 in
theorem S_X3_hasRoom {g : Gx} (x0 : Nat) (x1 : Int32) (hx0 : isH x0) (I : MI) (L : ML) (res : Bool) (h : f_X3_hasRoom x0 x1 I L = some res) : E g 1 0 mX3_hasRoom 0 [(0, .ref x0), (1, .int x1)] [] (I, L) (.inl (some (.int (bI res)))) (I, L) := by
  unfold f_X3_hasRoom at h
  refine E_iload_n (M := mX3_hasRoom) 1 rfl dX3_hasRoom_0 rfl 1 rfl ?_
  refine E_if_lt (M := mX3_hasRoom) 16 4 (by decide) rfl dX3_hasRoom_1 (fun c1 => ?_) (fun c1 => ?_)
  · rw [if_pos c1] at h
    refine E_sub (M := mX3_hasRoom) (lv' := []) [] rfl ?_
    exact S_X3_hasRoom_16 I L _ h
  · rw [if_neg c1] at h
    refine E_iload_n (M := mX3_hasRoom) 5 rfl dX3_hasRoom_4 rfl 1 rfl ?_
    refine E_aload_n (M := mX3_hasRoom) 6 rfl dX3_hasRoom_5 rfl 0 rfl ?_
    refine E_gI (M := mX3_hasRoom) 9 rfl dX3_hasRoom_6 (sh_H hx0) fl_X3_9 rfl ?_
    refine E_icmp_ge (M := mX3_hasRoom) 16 12 (by decide) rfl dX3_hasRoom_9 (fun c2 => ?_) (fun c2 => ?_)
    · rw [if_pos c2] at h
      refine E_sub (M := mX3_hasRoom) (lv' := []) [] rfl ?_
      exact S_X3_hasRoom_16 I L _ h
    · rw [if_neg c2] at h
      refine E_iconst (M := mX3_hasRoom) (v := 1) 13 rfl dX3_hasRoom_12 (by decide) ?_
      refine E_goto (M := mX3_hasRoom) 17 (by decide) dX3_hasRoom_13 ?_
      refine E_sub (M := mX3_hasRoom) (lv' := []) [] rfl ?_
      exact S_X3_hasRoom_17 true I L _ h
theorem C_X3_hasRoom {g : Gx} {x0 : Nat} {x1 : Int32} (hx0 : isH x0) {I : MI} {L : ML} {res : Bool} (h : f_X3_hasRoom x0 x1 I L = some res) : Ent g 1 0 mX3_hasRoom [.ref x0, .int x1] (I, L) (.inl (some (.int (bI res)))) (I, L) := Ent_of (by decide +kernel) (Nat.le_of_ble_eq_true rfl) (S_X3_hasRoom x0 x1 hx0 I L _ h)
def f_X3_shorten_27 (I : MI) (L : ML) : Option (MI × ML) := some (I, L)
set_option maxRecDepth 100000 in
theorem S_X3_shorten_27 {g : Gx} (I : MI) (L : ML) (res : MI × ML) (h : f_X3_shorten_27 I L = some res) : E g 1 0 mX3_shorten 27 [] [] (I, L) (.inl none) (res.1, res.2) := by
  unfold f_X3_shorten_27 at h
  cases h
  exact E_vret (M := mX3_shorten) rfl dX3_shorten_27
def f_X3_shorten (x0 : Nat) (x1 : Int32) (x2 : Int32) (x3 : Int32) (I : MI) (L : ML) : Option (MI × ML) := Option.bind (ldI I (x0 + 11) 100 ((x1 * 10) + x2)) fun v1 => if v1 ≤ x3 then (f_X3_shorten_27 I L) else (Option.bind (stI I (x0 + 11) 100 ((x1 * 10) + x2) x3) fun I3 => f_X3_shorten_27 I3 L)
set_option maxRecDepth 100000 in
theorem S_X3_shorten {g : Gx} (x0 : Nat) (x1 : Int32) (x2 : Int32) (x3 : Int32) (hx0 : isH x0) (I : MI) (L : ML) (res : MI × ML) (h : f_X3_shorten x0 x1 x2 x3 I L = some res) : E g 1 0 mX3_shorten 0 [(0, .ref x0), (1, .int x1), (2, .int x2), (3, .int x3)] [] (I, L) (.inl none) (res.1, res.2) := by
  unfold f_X3_shorten at h
  refine E_iload_n (M := mX3_shorten) 1 rfl dX3_shorten_0 rfl 3 rfl ?_
  refine E_aload_n (M := mX3_shorten) 2 rfl dX3_shorten_1 rfl 0 rfl ?_
  refine E_gR (M := mX3_shorten) (x0 + 11) 5 rfl dX3_shorten_2 (sh_H hx0) fl_X3_53 rfl (rt_H9 hx0) (H_lt hx0 11 (by decide)) ?_
  refine E_iload_n (M := mX3_shorten) 6 rfl dX3_shorten_5 rfl 1 rfl ?_
  refine E_bipush (M := mX3_shorten) (v := 10) 8 rfl dX3_shorten_6 (by decide) ?_
  refine E_imul (M := mX3_shorten) 9 rfl dX3_shorten_8 ?_
  refine E_iload_n (M := mX3_shorten) 10 rfl dX3_shorten_9 rfl 2 rfl ?_
  refine E_iadd (M := mX3_shorten) 11 rfl dX3_shorten_10 ?_
  replace h := Option.bind_eq_some_iff.mp h
  obtain ⟨v1, hv1, h⟩ := h
  refine E_ldI (M := mX3_shorten) 12 rfl dX3_shorten_11 (sh_H11 hx0) hv1 ?_
  refine E_icmp_ge (M := mX3_shorten) 27 15 (by decide) rfl dX3_shorten_12 (fun c2 => ?_) (fun c2 => ?_)
  · rw [if_pos c2] at h
    refine E_sub (M := mX3_shorten) (lv' := []) [] rfl ?_
    exact S_X3_shorten_27 I L _ h
  · rw [if_neg c2] at h
    refine E_aload_n (M := mX3_shorten) 16 rfl dX3_shorten_15 rfl 0 rfl ?_
    refine E_gR (M := mX3_shorten) (x0 + 11) 19 rfl dX3_shorten_16 (sh_H hx0) fl_X3_53 rfl (rt_H9 hx0) (H_lt hx0 11 (by decide)) ?_
    refine E_iload_n (M := mX3_shorten) 20 rfl dX3_shorten_19 rfl 1 rfl ?_
    refine E_bipush (M := mX3_shorten) (v := 10) 22 rfl dX3_shorten_20 (by decide) ?_
    refine E_imul (M := mX3_shorten) 23 rfl dX3_shorten_22 ?_
    refine E_iload_n (M := mX3_shorten) 24 rfl dX3_shorten_23 rfl 2 rfl ?_
    refine E_iadd (M := mX3_shorten) 25 rfl dX3_shorten_24 ?_
    refine E_iload_n (M := mX3_shorten) 26 rfl dX3_shorten_25 rfl 3 rfl ?_
    replace h := Option.bind_eq_some_iff.mp h
    obtain ⟨I3, hI3, h⟩ := h
    refine E_stI (M := mX3_shorten) 27 rfl dX3_shorten_26 (sh_H11 hx0) hI3 ?_
    refine E_sub (M := mX3_shorten) (lv' := []) [] rfl ?_
    exact S_X3_shorten_27 I3 L _ h
theorem C_X3_shorten {g : Gx} {x0 : Nat} {x1 : Int32} {x2 : Int32} {x3 : Int32} (hx0 : isH x0) {I : MI} {L : ML} {res : MI × ML} (h : f_X3_shorten x0 x1 x2 x3 I L = some res) : Ent g 1 0 mX3_shorten [.ref x0, .int x1, .int x2, .int x3] (I, L) (.inl none) (res.1, res.2) := Ent_of (by decide +kernel) (Nat.le_of_ble_eq_true rfl) (S_X3_shorten x0 x1 x2 x3 hx0 I L _ h)
def f_X3_way (x0 : Nat) (x1 : Int32) (x2 : Int32) (I : MI) (L : ML) : Option (Int32) := Option.bind (ldI I (x0 + 11) 100 ((x1 * 10) + x2)) fun v1 => some v1
set_option maxRecDepth 100000 in
theorem S_X3_way {g : Gx} (x0 : Nat) (x1 : Int32) (x2 : Int32) (hx0 : isH x0) (I : MI) (L : ML) (res : Int32) (h : f_X3_way x0 x1 x2 I L = some res) : E g 1 0 mX3_way 0 [(0, .ref x0), (1, .int x1), (2, .int x2)] [] (I, L) (.inl (some (.int res))) (I, L) := by
  unfold f_X3_way at h
  refine E_aload_n (M := mX3_way) 1 rfl dX3_way_0 rfl 0 rfl ?_
  refine E_gR (M := mX3_way) (x0 + 11) 4 rfl dX3_way_1 (sh_H hx0) fl_X3_53 rfl (rt_H9 hx0) (H_lt hx0 11 (by decide)) ?_
  refine E_iload_n (M := mX3_way) 5 rfl dX3_way_4 rfl 1 rfl ?_
  refine E_bipush (M := mX3_way) (v := 10) 7 rfl dX3_way_5 (by decide) ?_
  refine E_imul (M := mX3_way) 8 rfl dX3_way_7 ?_
  refine E_iload_n (M := mX3_way) 9 rfl dX3_way_8 rfl 2 rfl ?_
  refine E_iadd (M := mX3_way) 10 rfl dX3_way_9 ?_
  replace h := Option.bind_eq_some_iff.mp h
  obtain ⟨v1, hv1, h⟩ := h
  refine E_ldI (M := mX3_way) 11 rfl dX3_way_10 (sh_H11 hx0) hv1 ?_
  cases h
  exact E_iret (M := mX3_way) rfl dX3_way_11
theorem C_X3_way {g : Gx} {x0 : Nat} {x1 : Int32} {x2 : Int32} (hx0 : isH x0) {I : MI} {L : ML} {res : Int32} (h : f_X3_way x0 x1 x2 I L = some res) : Ent g 1 0 mX3_way [.ref x0, .int x1, .int x2] (I, L) (.inl (some (.int res))) (I, L) := Ent_of (by decide +kernel) (Nat.le_of_ble_eq_true rfl) (S_X3_way x0 x1 x2 hx0 I L _ h)
def f_X3_findWays_151 (k141 : Nat → Int32 → Int32 → MI → ML → Option (MI × ML)) : Nat → Nat → Int32 → Int32 → Int32 → MI → ML → Option (MI × ML)
  | 0, _, _, _, _, _, _ => none
  | n + 1, x0, x1, x2, x3, I, L => if (I x0 0) ≤ x3 then (k141 x0 x1 (x2 + 1) I L) else (Option.bind (f_X3_way x0 x2 x1 I L) fun v2 => Option.bind (f_X3_way x0 x1 x3 I L) fun v3 => Option.bind (f_X3_shorten x0 x2 x3 (v2 + v3) I L) fun w4 => f_X3_findWays_151 k141 n x0 x1 x2 (x3 + 1) w4.1 w4.2)
set_option maxRecDepth 100000 in
theorem S_X3_findWays_151 {g : Gx} {k141 : Nat → Int32 → Int32 → MI → ML → Option (MI × ML)} (hk141 : ∀ (x0z : Nat) (x1z : Int32) (x2z : Int32) (hx0z : isH x0z) (I : MI) (L : ML) (res : MI × ML), k141 x0z x1z x2z I L = some res → E g 2 0 mX3_findWays 141 [(0, .ref x0z), (1, .int x1z), (2, .int x2z)] [] (I, L) (.inl none) (res.1, res.2)) : ∀ (n : Nat) (x0 : Nat) (x1 : Int32) (x2 : Int32) (x3 : Int32) (hx0 : isH x0) (I : MI) (L : ML) (res : MI × ML), f_X3_findWays_151 k141 n x0 x1 x2 x3 I L = some res → E g 2 0 mX3_findWays 151 [(0, .ref x0), (1, .int x1), (2, .int x2), (3, .int x3)] [] (I, L) (.inl none) (res.1, res.2) := by
  intro n
  induction n with
  | zero =>
    intros
    rename_i h
    cases h
  | succ n ih =>
    intro x0 x1 x2 x3 hx0 I L res h
    rw [f_X3_findWays_151] at h
    refine E_iload_n (M := mX3_findWays) 152 rfl dX3_findWays_151 rfl 3 rfl ?_
    refine E_aload_n (M := mX3_findWays) 153 rfl dX3_findWays_152 rfl 0 rfl ?_
    refine E_gI (M := mX3_findWays) 156 rfl dX3_findWays_153 (sh_H hx0) fl_X3_9 rfl ?_
    refine E_icmp_ge (M := mX3_findWays) 184 159 (by decide) rfl dX3_findWays_156 (fun c1 => ?_) (fun c1 => ?_)
    · rw [if_pos c1] at h
      refine E_iinc (M := mX3_findWays) (j := 2) (v := x2 + 1) (lv' := [(2, .int (x2 + 1)), (0, .ref x0), (1, .int x1), (3, .int x3)]) 187 rfl dX3_findWays_184 rfl rfl (Nat.le_of_ble_eq_true rfl) rfl ?_
      refine E_goto (M := mX3_findWays) 141 (by decide) dX3_findWays_187 ?_
      refine E_sub (M := mX3_findWays) (lv' := [(0, .ref x0), (1, .int x1), (2, .int (x2 + 1))]) [1, 2, 0] rfl ?_
      exact hk141 x0 x1 (x2 + 1) hx0 I L _ h
    · rw [if_neg c1] at h
      refine E_aload_n (M := mX3_findWays) 160 rfl dX3_findWays_159 rfl 0 rfl ?_
      refine E_iload_n (M := mX3_findWays) 161 rfl dX3_findWays_160 rfl 2 rfl ?_
      refine E_iload_n (M := mX3_findWays) 162 rfl dX3_findWays_161 rfl 3 rfl ?_
      refine E_aload_n (M := mX3_findWays) 163 rfl dX3_findWays_162 rfl 0 rfl ?_
      refine E_iload_n (M := mX3_findWays) 164 rfl dX3_findWays_163 rfl 2 rfl ?_
      refine E_iload_n (M := mX3_findWays) 165 rfl dX3_findWays_164 rfl 1 rfl ?_
      replace h := Option.bind_eq_some_iff.mp h
      obtain ⟨v2, hv2, h⟩ := h
      refine E_cV1 (M := mX3_findWays) (As := [.int x2, .int x1]) 168 rfl dX3_findWays_165 (sh_H hx0) ck_X3_136 cv_X3_way rfl (by decide) (Nat.le_of_ble_eq_true rfl) (C_X3_way (g := g) hx0 hv2) rfl ?_
      refine E_aload_n (M := mX3_findWays) 169 rfl dX3_findWays_168 rfl 0 rfl ?_
      refine E_iload_n (M := mX3_findWays) 170 rfl dX3_findWays_169 rfl 1 rfl ?_
      refine E_iload_n (M := mX3_findWays) 171 rfl dX3_findWays_170 rfl 3 rfl ?_
      replace h := Option.bind_eq_some_iff.mp h
      obtain ⟨v3, hv3, h⟩ := h
      refine E_cV1 (M := mX3_findWays) (As := [.int x1, .int x3]) 174 rfl dX3_findWays_171 (sh_H hx0) ck_X3_136 cv_X3_way rfl (by decide) (Nat.le_of_ble_eq_true rfl) (C_X3_way (g := g) hx0 hv3) rfl ?_
      refine E_iadd (M := mX3_findWays) 175 rfl dX3_findWays_174 ?_
      replace h := Option.bind_eq_some_iff.mp h
      obtain ⟨w4, hw4, h⟩ := h
      refine E_cV0 (M := mX3_findWays) (As := [.int x2, .int x3, .int (v2 + v3)]) 178 rfl dX3_findWays_175 (sh_H hx0) ck_X3_132 cv_X3_shorten rfl (by decide) (Nat.le_of_ble_eq_true rfl) (C_X3_shorten (g := g) hx0 hw4) rfl ?_
      refine E_iinc (M := mX3_findWays) (j := 3) (v := x3 + 1) (lv' := [(3, .int (x3 + 1)), (0, .ref x0), (1, .int x1), (2, .int x2)]) 181 rfl dX3_findWays_178 rfl rfl (Nat.le_of_ble_eq_true rfl) rfl ?_
      refine E_goto (M := mX3_findWays) 151 (by decide) dX3_findWays_181 ?_
      refine E_sub (M := mX3_findWays) (lv' := [(0, .ref x0), (1, .int x1), (2, .int x2), (3, .int (x3 + 1))]) [1, 2, 3, 0] rfl ?_
      exact ih x0 x1 x2 (x3 + 1) hx0 w4.1 w4.2 _ h
def f_X3_findWays_141 (k131 : Nat → Int32 → MI → ML → Option (MI × ML)) : Nat → Nat → Int32 → Int32 → MI → ML → Option (MI × ML)
  | 0, _, _, _, _, _ => none
  | n + 1, x0, x1, x2, I, L => if (I x0 0) ≤ x2 then (k131 x0 (x1 + 1) I L) else (f_X3_findWays_151 (f_X3_findWays_141 k131 n) FU x0 x1 x2 0 I L)
set_option maxRecDepth 100000 in
theorem S_X3_findWays_141 {g : Gx} {k131 : Nat → Int32 → MI → ML → Option (MI × ML)} (hk131 : ∀ (x0z : Nat) (x1z : Int32) (hx0z : isH x0z) (I : MI) (L : ML) (res : MI × ML), k131 x0z x1z I L = some res → E g 2 0 mX3_findWays 131 [(0, .ref x0z), (1, .int x1z)] [] (I, L) (.inl none) (res.1, res.2)) : ∀ (n : Nat) (x0 : Nat) (x1 : Int32) (x2 : Int32) (hx0 : isH x0) (I : MI) (L : ML) (res : MI × ML), f_X3_findWays_141 k131 n x0 x1 x2 I L = some res → E g 2 0 mX3_findWays 141 [(0, .ref x0), (1, .int x1), (2, .int x2)] [] (I, L) (.inl none) (res.1, res.2) := by
  intro n
  induction n with
  | zero =>
    intros
    rename_i h
    cases h
  | succ n ih =>
    intro x0 x1 x2 hx0 I L res h
    rw [f_X3_findWays_141] at h
    refine E_iload_n (M := mX3_findWays) 142 rfl dX3_findWays_141 rfl 2 rfl ?_
    refine E_aload_n (M := mX3_findWays) 143 rfl dX3_findWays_142 rfl 0 rfl ?_
    refine E_gI (M := mX3_findWays) 146 rfl dX3_findWays_143 (sh_H hx0) fl_X3_9 rfl ?_
    refine E_icmp_ge (M := mX3_findWays) 190 149 (by decide) rfl dX3_findWays_146 (fun c1 => ?_) (fun c1 => ?_)
    · rw [if_pos c1] at h
      refine E_iinc (M := mX3_findWays) (j := 1) (v := x1 + 1) (lv' := [(1, .int (x1 + 1)), (0, .ref x0), (2, .int x2)]) 193 rfl dX3_findWays_190 rfl rfl (Nat.le_of_ble_eq_true rfl) rfl ?_
      refine E_goto (M := mX3_findWays) 131 (by decide) dX3_findWays_193 ?_
      refine E_sub (M := mX3_findWays) (lv' := [(0, .ref x0), (1, .int (x1 + 1))]) [1, 0] rfl ?_
      exact hk131 x0 (x1 + 1) hx0 I L _ h
    · rw [if_neg c1] at h
      refine E_iconst (M := mX3_findWays) (v := 0) 150 rfl dX3_findWays_149 (by decide) ?_
      refine E_istore_n (M := mX3_findWays) (lv' := [(3, .int 0), (0, .ref x0), (1, .int x1), (2, .int x2)]) 151 rfl dX3_findWays_150 rfl (Nat.le_of_ble_eq_true rfl) rfl ?_
      refine E_sub (M := mX3_findWays) (lv' := [(0, .ref x0), (1, .int x1), (2, .int x2), (3, .int 0)]) [1, 2, 3, 0] rfl ?_
      exact S_X3_findWays_151 ih FU x0 x1 x2 0 hx0 I L _ h
def f_X3_findWays_131 : Nat → Nat → Int32 → MI → ML → Option (MI × ML)
  | 0, _, _, _, _ => none
  | n + 1, x0, x1, I, L => if (I x0 0) ≤ x1 then (some (I, L)) else (f_X3_findWays_141 (f_X3_findWays_131 n) FU x0 x1 0 I L)
set_option maxRecDepth 100000 in
theorem S_X3_findWays_131 {g : Gx} : ∀ (n : Nat) (x0 : Nat) (x1 : Int32) (hx0 : isH x0) (I : MI) (L : ML) (res : MI × ML), f_X3_findWays_131 n x0 x1 I L = some res → E g 2 0 mX3_findWays 131 [(0, .ref x0), (1, .int x1)] [] (I, L) (.inl none) (res.1, res.2) := by
  intro n
  induction n with
  | zero =>
    intros
    rename_i h
    cases h
  | succ n ih =>
    intro x0 x1 hx0 I L res h
    rw [f_X3_findWays_131] at h
    refine E_iload_n (M := mX3_findWays) 132 rfl dX3_findWays_131 rfl 1 rfl ?_
    refine E_aload_n (M := mX3_findWays) 133 rfl dX3_findWays_132 rfl 0 rfl ?_
    refine E_gI (M := mX3_findWays) 136 rfl dX3_findWays_133 (sh_H hx0) fl_X3_9 rfl ?_
    refine E_icmp_ge (M := mX3_findWays) 196 139 (by decide) rfl dX3_findWays_136 (fun c1 => ?_) (fun c1 => ?_)
    · rw [if_pos c1] at h
      cases h
      exact E_vret (M := mX3_findWays) rfl dX3_findWays_196
    · rw [if_neg c1] at h
      refine E_iconst (M := mX3_findWays) (v := 0) 140 rfl dX3_findWays_139 (by decide) ?_
      refine E_istore_n (M := mX3_findWays) (lv' := [(2, .int 0), (0, .ref x0), (1, .int x1)]) 141 rfl dX3_findWays_140 rfl (Nat.le_of_ble_eq_true rfl) rfl ?_
      refine E_sub (M := mX3_findWays) (lv' := [(0, .ref x0), (1, .int x1), (2, .int 0)]) [1, 2, 0] rfl ?_
      exact S_X3_findWays_141 ih FU x0 x1 0 hx0 I L _ h
def f_X3_findWays_56 : Nat → Nat → Int32 → MI → ML → Option (MI × ML)
  | 0, _, _, _, _ => none
  | n + 1, x0, x1, I, L => if (I x0 1) ≤ x1 then (f_X3_findWays_131 FU x0 0 I L) else (Option.bind (ldR (x0 + 13) 14 x1) fun v2 => Option.bind (ldI I (x0 + 1) 10 (I v2 1)) fun v3 => Option.bind (f_X3_shorten x0 (I v2 0) (I v2 1) ((I v2 2) + v3) I L) fun w4 => Option.bind (ldI w4.1 (x0 + 1) 10 (w4.1 v2 0)) fun v5 => Option.bind (f_X3_shorten x0 (w4.1 v2 1) (w4.1 v2 0) ((w4.1 v2 2) + v5) w4.1 w4.2) fun w6 => f_X3_findWays_56 n x0 (x1 + 1) w6.1 w6.2)
set_option maxRecDepth 100000 in
theorem S_X3_findWays_56 {g : Gx} : ∀ (n : Nat) (x0 : Nat) (x1 : Int32) (hx0 : isH x0) (I : MI) (L : ML) (res : MI × ML), f_X3_findWays_56 n x0 x1 I L = some res → E g 2 0 mX3_findWays 56 [(0, .ref x0), (1, .int x1)] [] (I, L) (.inl none) (res.1, res.2) := by
  intro n
  induction n with
  | zero =>
    intros
    rename_i h
    cases h
  | succ n ih =>
    intro x0 x1 hx0 I L res h
    rw [f_X3_findWays_56] at h
    refine E_iload_n (M := mX3_findWays) 57 rfl dX3_findWays_56 rfl 1 rfl ?_
    refine E_aload_n (M := mX3_findWays) 58 rfl dX3_findWays_57 rfl 0 rfl ?_
    refine E_gI (M := mX3_findWays) 61 rfl dX3_findWays_58 (sh_H hx0) fl_X3_15 rfl ?_
    refine E_icmp_ge (M := mX3_findWays) 129 64 (by decide) rfl dX3_findWays_61 (fun c1 => ?_) (fun c1 => ?_)
    · rw [if_pos c1] at h
      refine E_iconst (M := mX3_findWays) (v := 0) 130 rfl dX3_findWays_129 (by decide) ?_
      refine E_istore_n (M := mX3_findWays) (lv' := [(1, .int 0), (0, .ref x0)]) 131 rfl dX3_findWays_130 rfl (Nat.le_of_ble_eq_true rfl) rfl ?_
      refine E_sub (M := mX3_findWays) (lv' := [(0, .ref x0), (1, .int 0)]) [1, 0] rfl ?_
      exact S_X3_findWays_131 FU x0 0 hx0 I L _ h
    · rw [if_neg c1] at h
      refine E_aload_n (M := mX3_findWays) 65 rfl dX3_findWays_64 rfl 0 rfl ?_
      refine E_gR (M := mX3_findWays) (x0 + 2) 68 rfl dX3_findWays_65 (sh_H hx0) fl_X3_30 rfl (rt_H5 hx0) (H_lt hx0 2 (by decide)) ?_
      refine E_iload_n (M := mX3_findWays) 69 rfl dX3_findWays_68 rfl 1 rfl ?_
      replace h := Option.bind_eq_some_iff.mp h
      obtain ⟨v2, hv2, h⟩ := h
      refine E_ldD (M := mX3_findWays) hx0 70 rfl dX3_findWays_69 hv2 ?_
      refine E_astore_n (M := mX3_findWays) (lv' := [(2, .ref v2), (0, .ref x0), (1, .int x1)]) 71 rfl dX3_findWays_70 rfl (Nat.le_of_ble_eq_true rfl) rfl ?_
      refine E_aload_n (M := mX3_findWays) 72 rfl dX3_findWays_71 rfl 1 rfl ?_
      refine E_aload_n (M := mX3_findWays) 73 rfl dX3_findWays_72 rfl 0 rfl ?_
      refine E_gI (M := mX3_findWays) 76 rfl dX3_findWays_73 (sh_D (isD_ld hx0 hv2)) fl_X3_107 rfl ?_
      refine E_aload_n (M := mX3_findWays) 77 rfl dX3_findWays_76 rfl 0 rfl ?_
      refine E_gI (M := mX3_findWays) 80 rfl dX3_findWays_77 (sh_D (isD_ld hx0 hv2)) fl_X3_110 rfl ?_
      refine E_aload_n (M := mX3_findWays) 81 rfl dX3_findWays_80 rfl 0 rfl ?_
      refine E_gI (M := mX3_findWays) 84 rfl dX3_findWays_81 (sh_D (isD_ld hx0 hv2)) fl_X3_113 rfl ?_
      refine E_aload_n (M := mX3_findWays) 85 rfl dX3_findWays_84 rfl 1 rfl ?_
      refine E_gR (M := mX3_findWays) (x0 + 1) 88 rfl dX3_findWays_85 (sh_H hx0) fl_X3_24 rfl (rt_H4 hx0) (H_lt hx0 1 (by decide)) ?_
      refine E_aload_n (M := mX3_findWays) 89 rfl dX3_findWays_88 rfl 0 rfl ?_
      refine E_gI (M := mX3_findWays) 92 rfl dX3_findWays_89 (sh_D (isD_ld hx0 hv2)) fl_X3_110 rfl ?_
      replace h := Option.bind_eq_some_iff.mp h
      obtain ⟨v3, hv3, h⟩ := h
      refine E_ldI (M := mX3_findWays) 93 rfl dX3_findWays_92 (sh_H1 hx0) hv3 ?_
      refine E_iadd (M := mX3_findWays) 94 rfl dX3_findWays_93 ?_
      replace h := Option.bind_eq_some_iff.mp h
      obtain ⟨w4, hw4, h⟩ := h
      refine E_cV0 (M := mX3_findWays) (As := [.int (I v2 0), .int (I v2 1), .int ((I v2 2) + v3)]) 97 rfl dX3_findWays_94 (sh_H hx0) ck_X3_132 cv_X3_shorten rfl (by decide) (Nat.le_of_ble_eq_true rfl) (C_X3_shorten (g := g) hx0 hw4) rfl ?_
      refine E_aload_n (M := mX3_findWays) 98 rfl dX3_findWays_97 rfl 1 rfl ?_
      refine E_aload_n (M := mX3_findWays) 99 rfl dX3_findWays_98 rfl 0 rfl ?_
      refine E_gI (M := mX3_findWays) 102 rfl dX3_findWays_99 (sh_D (isD_ld hx0 hv2)) fl_X3_110 rfl ?_
      refine E_aload_n (M := mX3_findWays) 103 rfl dX3_findWays_102 rfl 0 rfl ?_
      refine E_gI (M := mX3_findWays) 106 rfl dX3_findWays_103 (sh_D (isD_ld hx0 hv2)) fl_X3_107 rfl ?_
      refine E_aload_n (M := mX3_findWays) 107 rfl dX3_findWays_106 rfl 0 rfl ?_
      refine E_gI (M := mX3_findWays) 110 rfl dX3_findWays_107 (sh_D (isD_ld hx0 hv2)) fl_X3_113 rfl ?_
      refine E_aload_n (M := mX3_findWays) 111 rfl dX3_findWays_110 rfl 1 rfl ?_
      refine E_gR (M := mX3_findWays) (x0 + 1) 114 rfl dX3_findWays_111 (sh_H hx0) fl_X3_24 rfl (rt_H4 hx0) (H_lt hx0 1 (by decide)) ?_
      refine E_aload_n (M := mX3_findWays) 115 rfl dX3_findWays_114 rfl 0 rfl ?_
      refine E_gI (M := mX3_findWays) 118 rfl dX3_findWays_115 (sh_D (isD_ld hx0 hv2)) fl_X3_107 rfl ?_
      replace h := Option.bind_eq_some_iff.mp h
      obtain ⟨v5, hv5, h⟩ := h
      refine E_ldI (M := mX3_findWays) 119 rfl dX3_findWays_118 (sh_H1 hx0) hv5 ?_
      refine E_iadd (M := mX3_findWays) 120 rfl dX3_findWays_119 ?_
      replace h := Option.bind_eq_some_iff.mp h
      obtain ⟨w6, hw6, h⟩ := h
      refine E_cV0 (M := mX3_findWays) (As := [.int (w4.1 v2 1), .int (w4.1 v2 0), .int ((w4.1 v2 2) + v5)]) 123 rfl dX3_findWays_120 (sh_H hx0) ck_X3_132 cv_X3_shorten rfl (by decide) (Nat.le_of_ble_eq_true rfl) (C_X3_shorten (g := g) hx0 hw6) rfl ?_
      refine E_iinc (M := mX3_findWays) (j := 2) (v := x1 + 1) (lv' := [(1, .int (x1 + 1)), (2, .ref v2), (0, .ref x0)]) 126 rfl dX3_findWays_123 rfl rfl (Nat.le_of_ble_eq_true rfl) rfl ?_
      refine E_goto (M := mX3_findWays) 56 (by decide) dX3_findWays_126 ?_
      refine E_sub (M := mX3_findWays) (lv' := [(0, .ref x0), (1, .int (x1 + 1))]) [2, 0] rfl ?_
      exact ih x0 (x1 + 1) hx0 w6.1 w6.2 _ h
def f_X3_findWays_41 (k12 : Nat → Int32 → Int32 → MI → ML → Option (MI × ML)) (x0 : Nat) (x1 : Int32) (x2 : Int32) (y0 : Nat) (y1 : Int32) (y2 : Int32) (I : MI) (L : ML) : Option (MI × ML) := Option.bind (stI I (y0 + 11) 100 y1 y2) fun I1 => k12 x0 x1 (x2 + 1) I1 L
set_option maxRecDepth 100000 in
theorem S_X3_findWays_41 {g : Gx} {k12 : Nat → Int32 → Int32 → MI → ML → Option (MI × ML)} (hk12 : ∀ (x0z : Nat) (x1z : Int32) (x2z : Int32) (hx0z : isH x0z) (I : MI) (L : ML) (res : MI × ML), k12 x0z x1z x2z I L = some res → E g 2 0 mX3_findWays 12 [(0, .ref x0z), (1, .int x1z), (2, .int x2z)] [] (I, L) (.inl none) (res.1, res.2)) (x0 : Nat) (x1 : Int32) (x2 : Int32) (y0 : Nat) (y1 : Int32) (y2 : Int32) (hx0 : isH x0) (hy0 : isH y0) (I : MI) (L : ML) (res : MI × ML) (h : f_X3_findWays_41 k12 x0 x1 x2 y0 y1 y2 I L = some res) : E g 2 0 mX3_findWays 41 [(0, .ref x0), (1, .int x1), (2, .int x2)] [.int y2, .int y1, .ref (y0 + 11)] (I, L) (.inl none) (res.1, res.2) := by
  unfold f_X3_findWays_41 at h
  replace h := Option.bind_eq_some_iff.mp h
  obtain ⟨I1, hI1, h⟩ := h
  refine E_stI (M := mX3_findWays) 42 rfl dX3_findWays_41 (sh_H11 hy0) hI1 ?_
  refine E_iinc (M := mX3_findWays) (j := 2) (v := x2 + 1) (lv' := [(2, .int (x2 + 1)), (0, .ref x0), (1, .int x1)]) 45 rfl dX3_findWays_42 rfl rfl (Nat.le_of_ble_eq_true rfl) rfl ?_
  refine E_goto (M := mX3_findWays) 12 (by decide) dX3_findWays_45 ?_
  refine E_sub (M := mX3_findWays) (lv' := [(0, .ref x0), (1, .int x1), (2, .int (x2 + 1))]) [1, 2, 0] rfl ?_
  exact hk12 x0 x1 (x2 + 1) hx0 I1 L _ h
def f_X3_findWays_12 (k2 : Nat → Int32 → MI → ML → Option (MI × ML)) : Nat → Nat → Int32 → Int32 → MI → ML → Option (MI × ML)
  | 0, _, _, _, _, _ => none
  | n + 1, x0, x1, x2, I, L => if (I x0 0) ≤ x2 then (k2 x0 (x1 + 1) I L) else (if x1 = x2 then (f_X3_findWays_41 (f_X3_findWays_12 k2 n) x0 x1 x2 x0 ((x1 * 10) + x2) 0 I L) else (f_X3_findWays_41 (f_X3_findWays_12 k2 n) x0 x1 x2 x0 ((x1 * 10) + x2) 100000 I L))
set_option maxRecDepth 100000 in
theorem S_X3_findWays_12 {g : Gx} {k2 : Nat → Int32 → MI → ML → Option (MI × ML)} (hk2 : ∀ (x0z : Nat) (x1z : Int32) (hx0z : isH x0z) (I : MI) (L : ML) (res : MI × ML), k2 x0z x1z I L = some res → E g 2 0 mX3_findWays 2 [(0, .ref x0z), (1, .int x1z)] [] (I, L) (.inl none) (res.1, res.2)) : ∀ (n : Nat) (x0 : Nat) (x1 : Int32) (x2 : Int32) (hx0 : isH x0) (I : MI) (L : ML) (res : MI × ML), f_X3_findWays_12 k2 n x0 x1 x2 I L = some res → E g 2 0 mX3_findWays 12 [(0, .ref x0), (1, .int x1), (2, .int x2)] [] (I, L) (.inl none) (res.1, res.2) := by
  intro n
  induction n with
  | zero =>
    intros
    rename_i h
    cases h
  | succ n ih =>
    intro x0 x1 x2 hx0 I L res h
    rw [f_X3_findWays_12] at h
    refine E_iload_n (M := mX3_findWays) 13 rfl dX3_findWays_12 rfl 2 rfl ?_
    refine E_aload_n (M := mX3_findWays) 14 rfl dX3_findWays_13 rfl 0 rfl ?_
    refine E_gI (M := mX3_findWays) 17 rfl dX3_findWays_14 (sh_H hx0) fl_X3_9 rfl ?_
    refine E_icmp_ge (M := mX3_findWays) 48 20 (by decide) rfl dX3_findWays_17 (fun c1 => ?_) (fun c1 => ?_)
    · rw [if_pos c1] at h
      refine E_iinc (M := mX3_findWays) (j := 1) (v := x1 + 1) (lv' := [(1, .int (x1 + 1)), (0, .ref x0), (2, .int x2)]) 51 rfl dX3_findWays_48 rfl rfl (Nat.le_of_ble_eq_true rfl) rfl ?_
      refine E_goto (M := mX3_findWays) 2 (by decide) dX3_findWays_51 ?_
      refine E_sub (M := mX3_findWays) (lv' := [(0, .ref x0), (1, .int (x1 + 1))]) [1, 0] rfl ?_
      exact hk2 x0 (x1 + 1) hx0 I L _ h
    · rw [if_neg c1] at h
      refine E_aload_n (M := mX3_findWays) 21 rfl dX3_findWays_20 rfl 0 rfl ?_
      refine E_gR (M := mX3_findWays) (x0 + 11) 24 rfl dX3_findWays_21 (sh_H hx0) fl_X3_53 rfl (rt_H9 hx0) (H_lt hx0 11 (by decide)) ?_
      refine E_iload_n (M := mX3_findWays) 25 rfl dX3_findWays_24 rfl 1 rfl ?_
      refine E_bipush (M := mX3_findWays) (v := 10) 27 rfl dX3_findWays_25 (by decide) ?_
      refine E_imul (M := mX3_findWays) 28 rfl dX3_findWays_27 ?_
      refine E_iload_n (M := mX3_findWays) 29 rfl dX3_findWays_28 rfl 2 rfl ?_
      refine E_iadd (M := mX3_findWays) 30 rfl dX3_findWays_29 ?_
      refine E_iload_n (M := mX3_findWays) 31 rfl dX3_findWays_30 rfl 1 rfl ?_
      refine E_iload_n (M := mX3_findWays) 32 rfl dX3_findWays_31 rfl 2 rfl ?_
      refine E_icmp_ne (M := mX3_findWays) 39 35 (by decide) rfl dX3_findWays_32 (fun c2 => ?_) (fun c2 => ?_)
      · rw [if_neg c2] at h
        refine E_ldc (M := mX3_findWays) 41 rfl dX3_findWays_39 cst_X3_131 ?_
        refine E_sub (M := mX3_findWays) (lv' := [(0, .ref x0), (1, .int x1), (2, .int x2)]) [0, 1, 2] rfl ?_
        exact S_X3_findWays_41 ih x0 x1 x2 x0 ((x1 * 10) + x2) 100000 hx0 hx0 I L _ h
      · rw [if_pos c2] at h
        refine E_iconst (M := mX3_findWays) (v := 0) 36 rfl dX3_findWays_35 (by decide) ?_
        refine E_goto (M := mX3_findWays) 41 (by decide) dX3_findWays_36 ?_
        refine E_sub (M := mX3_findWays) (lv' := [(0, .ref x0), (1, .int x1), (2, .int x2)]) [0, 1, 2] rfl ?_
        exact S_X3_findWays_41 ih x0 x1 x2 x0 ((x1 * 10) + x2) 0 hx0 hx0 I L _ h
def f_X3_findWays_2 : Nat → Nat → Int32 → MI → ML → Option (MI × ML)
  | 0, _, _, _, _ => none
  | n + 1, x0, x1, I, L => if (I x0 0) ≤ x1 then (f_X3_findWays_56 FU x0 0 I L) else (f_X3_findWays_12 (f_X3_findWays_2 n) FU x0 x1 0 I L)
set_option maxRecDepth 100000 in
theorem S_X3_findWays_2 {g : Gx} : ∀ (n : Nat) (x0 : Nat) (x1 : Int32) (hx0 : isH x0) (I : MI) (L : ML) (res : MI × ML), f_X3_findWays_2 n x0 x1 I L = some res → E g 2 0 mX3_findWays 2 [(0, .ref x0), (1, .int x1)] [] (I, L) (.inl none) (res.1, res.2) := by
  intro n
  induction n with
  | zero =>
    intros
    rename_i h
    cases h
  | succ n ih =>
    intro x0 x1 hx0 I L res h
    rw [f_X3_findWays_2] at h
    refine E_iload_n (M := mX3_findWays) 3 rfl dX3_findWays_2 rfl 1 rfl ?_
    refine E_aload_n (M := mX3_findWays) 4 rfl dX3_findWays_3 rfl 0 rfl ?_
    refine E_gI (M := mX3_findWays) 7 rfl dX3_findWays_4 (sh_H hx0) fl_X3_9 rfl ?_
    refine E_icmp_ge (M := mX3_findWays) 54 10 (by decide) rfl dX3_findWays_7 (fun c1 => ?_) (fun c1 => ?_)
    · rw [if_pos c1] at h
      refine E_iconst (M := mX3_findWays) (v := 0) 55 rfl dX3_findWays_54 (by decide) ?_
      refine E_istore_n (M := mX3_findWays) (lv' := [(1, .int 0), (0, .ref x0)]) 56 rfl dX3_findWays_55 rfl (Nat.le_of_ble_eq_true rfl) rfl ?_
      refine E_sub (M := mX3_findWays) (lv' := [(0, .ref x0), (1, .int 0)]) [1, 0] rfl ?_
      exact S_X3_findWays_56 FU x0 0 hx0 I L _ h
    · rw [if_neg c1] at h
      refine E_iconst (M := mX3_findWays) (v := 0) 11 rfl dX3_findWays_10 (by decide) ?_
      refine E_istore_n (M := mX3_findWays) (lv' := [(2, .int 0), (0, .ref x0), (1, .int x1)]) 12 rfl dX3_findWays_11 rfl (Nat.le_of_ble_eq_true rfl) rfl ?_
      refine E_sub (M := mX3_findWays) (lv' := [(0, .ref x0), (1, .int x1), (2, .int 0)]) [1, 2, 0] rfl ?_
      exact S_X3_findWays_12 ih FU x0 x1 0 hx0 I L _ h
def f_X3_findWays (x0 : Nat) (I : MI) (L : ML) : Option (MI × ML) := f_X3_findWays_2 FU x0 0 I L
set_option maxRecDepth 100000 in
theorem S_X3_findWays {g : Gx} (x0 : Nat) (hx0 : isH x0) (I : MI) (L : ML) (res : MI × ML) (h : f_X3_findWays x0 I L = some res) : E g 2 0 mX3_findWays 0 [(0, .ref x0)] [] (I, L) (.inl none) (res.1, res.2) := by
  unfold f_X3_findWays at h
  refine E_iconst (M := mX3_findWays) (v := 0) 1 rfl dX3_findWays_0 (by decide) ?_
  refine E_istore_n (M := mX3_findWays) (lv' := [(1, .int 0), (0, .ref x0)]) 2 rfl dX3_findWays_1 rfl (Nat.le_of_ble_eq_true rfl) rfl ?_
  refine E_sub (M := mX3_findWays) (lv' := [(0, .ref x0), (1, .int 0)]) [1, 0] rfl ?_
  exact S_X3_findWays_2 FU x0 0 hx0 I L _ h
theorem C_X3_findWays {g : Gx} {x0 : Nat} (hx0 : isH x0) {I : MI} {L : ML} {res : MI × ML} (h : f_X3_findWays x0 I L = some res) : Ent g 2 0 mX3_findWays [.ref x0] (I, L) (.inl none) (res.1, res.2) := Ent_of (by decide +kernel) (Nat.le_of_ble_eq_true rfl) (S_X3_findWays x0 hx0 I L _ h)
def f_X3_lay (x0 : Nat) (x1 : Int32) (x2 : Int32) (I : MI) (L : ML) : Option (MI × ML) := Option.bind (stI I (x0 + 1) 10 x1 x2) fun I1 => Option.bind (f_X3_findWays x0 I1 L) fun w2 => some (w2.1, w2.2)
set_option maxRecDepth 100000 in
theorem S_X3_lay {g : Gx} (x0 : Nat) (x1 : Int32) (x2 : Int32) (hx0 : isH x0) (I : MI) (L : ML) (res : MI × ML) (h : f_X3_lay x0 x1 x2 I L = some res) : E g 3 0 mX3_lay 0 [(0, .ref x0), (1, .int x1), (2, .int x2)] [] (I, L) (.inl none) (res.1, res.2) := by
  unfold f_X3_lay at h
  refine E_aload_n (M := mX3_lay) 1 rfl dX3_lay_0 rfl 0 rfl ?_
  refine E_gR (M := mX3_lay) (x0 + 1) 4 rfl dX3_lay_1 (sh_H hx0) fl_X3_24 rfl (rt_H4 hx0) (H_lt hx0 1 (by decide)) ?_
  refine E_iload_n (M := mX3_lay) 5 rfl dX3_lay_4 rfl 1 rfl ?_
  refine E_iload_n (M := mX3_lay) 6 rfl dX3_lay_5 rfl 2 rfl ?_
  replace h := Option.bind_eq_some_iff.mp h
  obtain ⟨I1, hI1, h⟩ := h
  refine E_stI (M := mX3_lay) 7 rfl dX3_lay_6 (sh_H1 hx0) hI1 ?_
  refine E_aload_n (M := mX3_lay) 8 rfl dX3_lay_7 rfl 0 rfl ?_
  replace h := Option.bind_eq_some_iff.mp h
  obtain ⟨w2, hw2, h⟩ := h
  refine E_cV0 (M := mX3_lay) (As := []) 11 rfl dX3_lay_8 (sh_H hx0) ck_X3_128 cv_X3_findWays rfl (by decide) (Nat.le_of_ble_eq_true rfl) (C_X3_findWays (g := g) hx0 hw2) rfl ?_
  cases h
  exact E_vret (M := mX3_lay) rfl dX3_lay_11
theorem C_X3_lay {g : Gx} {x0 : Nat} {x1 : Int32} {x2 : Int32} (hx0 : isH x0) {I : MI} {L : ML} {res : MI × ML} (h : f_X3_lay x0 x1 x2 I L = some res) : Ent g 3 0 mX3_lay [.ref x0, .int x1, .int x2] (I, L) (.inl none) (res.1, res.2) := Ent_of (by decide +kernel) (Nat.le_of_ble_eq_true rfl) (S_X3_lay x0 x1 x2 hx0 I L _ h)
def f_X3_hasDoor_2 : Nat → Nat → Int32 → Int32 → Int32 → MI → ML → Option (Bool)
  | 0, _, _, _, _, _, _ => none
  | n + 1, x0, x1, x2, x3, I, L => if (I x0 1) ≤ x3 then (some false) else (Option.bind (ldR (x0 + 13) 14 x3) fun v2 => Option.bind (f_X1_leads v2 x1 x2 I L) fun v3 => if v3 = true then (some true) else (f_X3_hasDoor_2 n x0 x1 x2 (x3 + 1) I L))
set_option maxRecDepth 100000 in
theorem S_X3_hasDoor_2 {g : Gx} : ∀ (n : Nat) (x0 : Nat) (x1 : Int32) (x2 : Int32) (x3 : Int32) (hx0 : isH x0) (I : MI) (L : ML) (res : Bool), f_X3_hasDoor_2 n x0 x1 x2 x3 I L = some res → E g 2 0 mX3_hasDoor 2 [(0, .ref x0), (1, .int x1), (2, .int x2), (3, .int x3)] [] (I, L) (.inl (some (.int (bI res)))) (I, L) := by
  intro n
  induction n with
  | zero =>
    intros
    rename_i h
    cases h
  | succ n ih =>
    intro x0 x1 x2 x3 hx0 I L res h
    rw [f_X3_hasDoor_2] at h
    refine E_iload_n (M := mX3_hasDoor) 3 rfl dX3_hasDoor_2 rfl 3 rfl ?_
    refine E_aload_n (M := mX3_hasDoor) 4 rfl dX3_hasDoor_3 rfl 0 rfl ?_
    refine E_gI (M := mX3_hasDoor) 7 rfl dX3_hasDoor_4 (sh_H hx0) fl_X3_15 rfl ?_
    refine E_icmp_ge (M := mX3_hasDoor) 32 10 (by decide) rfl dX3_hasDoor_7 (fun c1 => ?_) (fun c1 => ?_)
    · rw [if_pos c1] at h
      refine E_iconst (M := mX3_hasDoor) (v := 0) 33 rfl dX3_hasDoor_32 (by decide) ?_
      cases h
      exact E_zret (M := mX3_hasDoor) (x := false) rfl dX3_hasDoor_33
    · rw [if_neg c1] at h
      refine E_aload_n (M := mX3_hasDoor) 11 rfl dX3_hasDoor_10 rfl 0 rfl ?_
      refine E_gR (M := mX3_hasDoor) (x0 + 2) 14 rfl dX3_hasDoor_11 (sh_H hx0) fl_X3_30 rfl (rt_H5 hx0) (H_lt hx0 2 (by decide)) ?_
      refine E_iload_n (M := mX3_hasDoor) 15 rfl dX3_hasDoor_14 rfl 3 rfl ?_
      replace h := Option.bind_eq_some_iff.mp h
      obtain ⟨v2, hv2, h⟩ := h
      refine E_ldD (M := mX3_hasDoor) hx0 16 rfl dX3_hasDoor_15 hv2 ?_
      refine E_iload_n (M := mX3_hasDoor) 17 rfl dX3_hasDoor_16 rfl 1 rfl ?_
      refine E_iload_n (M := mX3_hasDoor) 18 rfl dX3_hasDoor_17 rfl 2 rfl ?_
      replace h := Option.bind_eq_some_iff.mp h
      obtain ⟨v3, hv3, h⟩ := h
      refine E_cV1 (M := mX3_hasDoor) (As := [.int x1, .int x2]) 21 rfl dX3_hasDoor_18 (sh_D (isD_ld hx0 hv2)) ck_X3_139 cv_X1_leads rfl (by decide) (Nat.le_of_ble_eq_true rfl) (C_X1_leads (g := g) (isD_ld hx0 hv2) hv3) rfl ?_
      refine E_if_eqB (M := mX3_hasDoor) 26 24 (by decide) rfl dX3_hasDoor_21 (fun c4 => ?_) (fun c4 => ?_)
      · rw [if_neg (by rw [c4]; decide)] at h
        refine E_iinc (M := mX3_hasDoor) (j := 3) (v := x3 + 1) (lv' := [(3, .int (x3 + 1)), (0, .ref x0), (1, .int x1), (2, .int x2)]) 29 rfl dX3_hasDoor_26 rfl rfl (Nat.le_of_ble_eq_true rfl) rfl ?_
        refine E_goto (M := mX3_hasDoor) 2 (by decide) dX3_hasDoor_29 ?_
        refine E_sub (M := mX3_hasDoor) (lv' := [(0, .ref x0), (1, .int x1), (2, .int x2), (3, .int (x3 + 1))]) [1, 2, 3, 0] rfl ?_
        exact ih x0 x1 x2 (x3 + 1) hx0 I L _ h
      · rw [if_pos c4] at h
        refine E_iconst (M := mX3_hasDoor) (v := 1) 25 rfl dX3_hasDoor_24 (by decide) ?_
        cases h
        exact E_zret (M := mX3_hasDoor) (x := true) rfl dX3_hasDoor_25
def f_X3_hasDoor (x0 : Nat) (x1 : Int32) (x2 : Int32) (I : MI) (L : ML) : Option (Bool) := f_X3_hasDoor_2 FU x0 x1 x2 0 I L
set_option maxRecDepth 100000 in
theorem S_X3_hasDoor {g : Gx} (x0 : Nat) (x1 : Int32) (x2 : Int32) (hx0 : isH x0) (I : MI) (L : ML) (res : Bool) (h : f_X3_hasDoor x0 x1 x2 I L = some res) : E g 2 0 mX3_hasDoor 0 [(0, .ref x0), (1, .int x1), (2, .int x2)] [] (I, L) (.inl (some (.int (bI res)))) (I, L) := by
  unfold f_X3_hasDoor at h
  refine E_iconst (M := mX3_hasDoor) (v := 0) 1 rfl dX3_hasDoor_0 (by decide) ?_
  refine E_istore_n (M := mX3_hasDoor) (lv' := [(3, .int 0), (0, .ref x0), (1, .int x1), (2, .int x2)]) 2 rfl dX3_hasDoor_1 rfl (Nat.le_of_ble_eq_true rfl) rfl ?_
  refine E_sub (M := mX3_hasDoor) (lv' := [(0, .ref x0), (1, .int x1), (2, .int x2), (3, .int 0)]) [1, 2, 3, 0] rfl ?_
  exact S_X3_hasDoor_2 FU x0 x1 x2 0 hx0 I L _ h
theorem C_X3_hasDoor {g : Gx} {x0 : Nat} {x1 : Int32} {x2 : Int32} (hx0 : isH x0) {I : MI} {L : ML} {res : Bool} (h : f_X3_hasDoor x0 x1 x2 I L = some res) : Ent g 2 0 mX3_hasDoor [.ref x0, .int x1, .int x2] (I, L) (.inl (some (.int (bI res)))) (I, L) := Ent_of (by decide +kernel) (Nat.le_of_ble_eq_true rfl) (S_X3_hasDoor x0 x1 x2 hx0 I L _ h)
def f_X3_doorsOf_41 (k4 : Nat → Int32 → Int32 → Int32 → MI → ML → Option (Int32)) (x0 : Nat) (x1 : Int32) (x2 : Int32) (x3 : Int32) (I : MI) (L : ML) : Option (Int32) := k4 x0 x1 x2 (x3 + 1) I L
set_option maxRecDepth 100000 in
theorem S_X3_doorsOf_41 {g : Gx} {k4 : Nat → Int32 → Int32 → Int32 → MI → ML → Option (Int32)} (hk4 : ∀ (x0z : Nat) (x1z : Int32) (x2z : Int32) (x3z : Int32) (hx0z : isH x0z) (I : MI) (L : ML) (res : Int32), k4 x0z x1z x2z x3z I L = some res → E g 1 0 mX3_doorsOf 4 [(0, .ref x0z), (1, .int x1z), (2, .int x2z), (3, .int x3z)] [] (I, L) (.inl (some (.int res))) (I, L)) (x0 : Nat) (x1 : Int32) (x2 : Int32) (x3 : Int32) (hx0 : isH x0) (I : MI) (L : ML) (res : Int32) (h : f_X3_doorsOf_41 k4 x0 x1 x2 x3 I L = some res) : E g 1 0 mX3_doorsOf 41 [(0, .ref x0), (1, .int x1), (2, .int x2), (3, .int x3)] [] (I, L) (.inl (some (.int res))) (I, L) := by
  unfold f_X3_doorsOf_41 at h
  refine E_iinc (M := mX3_doorsOf) (j := 3) (v := x3 + 1) (lv' := [(3, .int (x3 + 1)), (0, .ref x0), (1, .int x1), (2, .int x2)]) 44 rfl dX3_doorsOf_41 rfl rfl (Nat.le_of_ble_eq_true rfl) rfl ?_
  refine E_goto (M := mX3_doorsOf) 4 (by decide) dX3_doorsOf_44 ?_
  refine E_sub (M := mX3_doorsOf) (lv' := [(0, .ref x0), (1, .int x1), (2, .int x2), (3, .int (x3 + 1))]) [1, 2, 3, 0] rfl ?_
  exact hk4 x0 x1 x2 (x3 + 1) hx0 I L _ h
def f_X3_doorsOf_38 (k4 : Nat → Int32 → Int32 → Int32 → MI → ML → Option (Int32)) (x0 : Nat) (x1 : Int32) (x2 : Int32) (x3 : Int32) (I : MI) (L : ML) : Option (Int32) := f_X3_doorsOf_41 k4 x0 x1 (x2 + 1) x3 I L
set_option maxRecDepth 100000 in
theorem S_X3_doorsOf_38 {g : Gx} {k4 : Nat → Int32 → Int32 → Int32 → MI → ML → Option (Int32)} (hk4 : ∀ (x0z : Nat) (x1z : Int32) (x2z : Int32) (x3z : Int32) (hx0z : isH x0z) (I : MI) (L : ML) (res : Int32), k4 x0z x1z x2z x3z I L = some res → E g 1 0 mX3_doorsOf 4 [(0, .ref x0z), (1, .int x1z), (2, .int x2z), (3, .int x3z)] [] (I, L) (.inl (some (.int res))) (I, L)) (x0 : Nat) (x1 : Int32) (x2 : Int32) (x3 : Int32) (hx0 : isH x0) (I : MI) (L : ML) (res : Int32) (h : f_X3_doorsOf_38 k4 x0 x1 x2 x3 I L = some res) : E g 1 0 mX3_doorsOf 38 [(0, .ref x0), (1, .int x1), (2, .int x2), (3, .int x3)] [] (I, L) (.inl (some (.int res))) (I, L) := by
  unfold f_X3_doorsOf_38 at h
  refine E_iinc (M := mX3_doorsOf) (j := 2) (v := x2 + 1) (lv' := [(2, .int (x2 + 1)), (0, .ref x0), (1, .int x1), (3, .int x3)]) 41 rfl dX3_doorsOf_38 rfl rfl (Nat.le_of_ble_eq_true rfl) rfl ?_
  refine E_sub (M := mX3_doorsOf) (lv' := [(0, .ref x0), (1, .int x1), (2, .int (x2 + 1)), (3, .int x3)]) [1, 2, 0, 3] rfl ?_
  exact S_X3_doorsOf_41 hk4 x0 x1 (x2 + 1) x3 hx0 I L _ h
def f_X3_doorsOf_4 : Nat → Nat → Int32 → Int32 → Int32 → MI → ML → Option (Int32)
  | 0, _, _, _, _, _, _ => none
  | n + 1, x0, x1, x2, x3, I, L => if (I x0 1) ≤ x3 then (some x2) else (Option.bind (ldR (x0 + 13) 14 x3) fun v2 => if (I v2 0) = x1 then (f_X3_doorsOf_38 (f_X3_doorsOf_4 n) x0 x1 x2 x3 I L) else (Option.bind (ldR (x0 + 13) 14 x3) fun v4 => if (I v4 1) = x1 then (f_X3_doorsOf_38 (f_X3_doorsOf_4 n) x0 x1 x2 x3 I L) else (f_X3_doorsOf_41 (f_X3_doorsOf_4 n) x0 x1 x2 x3 I L)))
set_option maxRecDepth 100000 in
theorem S_X3_doorsOf_4 {g : Gx} : ∀ (n : Nat) (x0 : Nat) (x1 : Int32) (x2 : Int32) (x3 : Int32) (hx0 : isH x0) (I : MI) (L : ML) (res : Int32), f_X3_doorsOf_4 n x0 x1 x2 x3 I L = some res → E g 1 0 mX3_doorsOf 4 [(0, .ref x0), (1, .int x1), (2, .int x2), (3, .int x3)] [] (I, L) (.inl (some (.int res))) (I, L) := by
  intro n
  induction n with
  | zero =>
    intros
    rename_i h
    cases h
  | succ n ih =>
    intro x0 x1 x2 x3 hx0 I L res h
    rw [f_X3_doorsOf_4] at h
    refine E_iload_n (M := mX3_doorsOf) 5 rfl dX3_doorsOf_4 rfl 3 rfl ?_
    refine E_aload_n (M := mX3_doorsOf) 6 rfl dX3_doorsOf_5 rfl 0 rfl ?_
    refine E_gI (M := mX3_doorsOf) 9 rfl dX3_doorsOf_6 (sh_H hx0) fl_X3_15 rfl ?_
    refine E_icmp_ge (M := mX3_doorsOf) 47 12 (by decide) rfl dX3_doorsOf_9 (fun c1 => ?_) (fun c1 => ?_)
    · rw [if_pos c1] at h
      refine E_iload_n (M := mX3_doorsOf) 48 rfl dX3_doorsOf_47 rfl 2 rfl ?_
      cases h
      exact E_iret (M := mX3_doorsOf) rfl dX3_doorsOf_48
    · rw [if_neg c1] at h
      refine E_aload_n (M := mX3_doorsOf) 13 rfl dX3_doorsOf_12 rfl 0 rfl ?_
      refine E_gR (M := mX3_doorsOf) (x0 + 2) 16 rfl dX3_doorsOf_13 (sh_H hx0) fl_X3_30 rfl (rt_H5 hx0) (H_lt hx0 2 (by decide)) ?_
      refine E_iload_n (M := mX3_doorsOf) 17 rfl dX3_doorsOf_16 rfl 3 rfl ?_
      replace h := Option.bind_eq_some_iff.mp h
      obtain ⟨v2, hv2, h⟩ := h
      refine E_ldD (M := mX3_doorsOf) hx0 18 rfl dX3_doorsOf_17 hv2 ?_
      refine E_gI (M := mX3_doorsOf) 21 rfl dX3_doorsOf_18 (sh_D (isD_ld hx0 hv2)) fl_X3_107 rfl ?_
      refine E_iload_n (M := mX3_doorsOf) 22 rfl dX3_doorsOf_21 rfl 1 rfl ?_
      refine E_icmp_eq (M := mX3_doorsOf) 38 25 (by decide) rfl dX3_doorsOf_22 (fun c3 => ?_) (fun c3 => ?_)
      · rw [if_pos c3] at h
        refine E_sub (M := mX3_doorsOf) (lv' := [(0, .ref x0), (1, .int x1), (2, .int x2), (3, .int x3)]) [0, 1, 2, 3] rfl ?_
        exact S_X3_doorsOf_38 ih x0 x1 x2 x3 hx0 I L _ h
      · rw [if_neg c3] at h
        refine E_aload_n (M := mX3_doorsOf) 26 rfl dX3_doorsOf_25 rfl 0 rfl ?_
        refine E_gR (M := mX3_doorsOf) (x0 + 2) 29 rfl dX3_doorsOf_26 (sh_H hx0) fl_X3_30 rfl (rt_H5 hx0) (H_lt hx0 2 (by decide)) ?_
        refine E_iload_n (M := mX3_doorsOf) 30 rfl dX3_doorsOf_29 rfl 3 rfl ?_
        replace h := Option.bind_eq_some_iff.mp h
        obtain ⟨v4, hv4, h⟩ := h
        refine E_ldD (M := mX3_doorsOf) hx0 31 rfl dX3_doorsOf_30 hv4 ?_
        refine E_gI (M := mX3_doorsOf) 34 rfl dX3_doorsOf_31 (sh_D (isD_ld hx0 hv4)) fl_X3_110 rfl ?_
        refine E_iload_n (M := mX3_doorsOf) 35 rfl dX3_doorsOf_34 rfl 1 rfl ?_
        refine E_icmp_ne (M := mX3_doorsOf) 41 38 (by decide) rfl dX3_doorsOf_35 (fun c5 => ?_) (fun c5 => ?_)
        · rw [if_neg c5] at h
          refine E_sub (M := mX3_doorsOf) (lv' := [(0, .ref x0), (1, .int x1), (2, .int x2), (3, .int x3)]) [0, 1, 2, 3] rfl ?_
          exact S_X3_doorsOf_41 ih x0 x1 x2 x3 hx0 I L _ h
        · rw [if_pos c5] at h
          refine E_sub (M := mX3_doorsOf) (lv' := [(0, .ref x0), (1, .int x1), (2, .int x2), (3, .int x3)]) [0, 1, 2, 3] rfl ?_
          exact S_X3_doorsOf_38 ih x0 x1 x2 x3 hx0 I L _ h
def f_X3_doorsOf (x0 : Nat) (x1 : Int32) (I : MI) (L : ML) : Option (Int32) := f_X3_doorsOf_4 FU x0 x1 0 0 I L
set_option maxRecDepth 100000 in
theorem S_X3_doorsOf {g : Gx} (x0 : Nat) (x1 : Int32) (hx0 : isH x0) (I : MI) (L : ML) (res : Int32) (h : f_X3_doorsOf x0 x1 I L = some res) : E g 1 0 mX3_doorsOf 0 [(0, .ref x0), (1, .int x1)] [] (I, L) (.inl (some (.int res))) (I, L) := by
  unfold f_X3_doorsOf at h
  refine E_iconst (M := mX3_doorsOf) (v := 0) 1 rfl dX3_doorsOf_0 (by decide) ?_
  refine E_istore_n (M := mX3_doorsOf) (lv' := [(2, .int 0), (0, .ref x0), (1, .int x1)]) 2 rfl dX3_doorsOf_1 rfl (Nat.le_of_ble_eq_true rfl) rfl ?_
  refine E_iconst (M := mX3_doorsOf) (v := 0) 3 rfl dX3_doorsOf_2 (by decide) ?_
  refine E_istore_n (M := mX3_doorsOf) (lv' := [(3, .int 0), (2, .int 0), (0, .ref x0), (1, .int x1)]) 4 rfl dX3_doorsOf_3 rfl (Nat.le_of_ble_eq_true rfl) rfl ?_
  refine E_sub (M := mX3_doorsOf) (lv' := [(0, .ref x0), (1, .int x1), (2, .int 0), (3, .int 0)]) [2, 3, 1, 0] rfl ?_
  exact S_X3_doorsOf_4 FU x0 x1 0 0 hx0 I L _ h
theorem C_X3_doorsOf {g : Gx} {x0 : Nat} {x1 : Int32} (hx0 : isH x0) {I : MI} {L : ML} {res : Int32} (h : f_X3_doorsOf x0 x1 I L = some res) : Ent g 1 0 mX3_doorsOf [.ref x0, .int x1] (I, L) (.inl (some (.int res))) (I, L) := Ent_of (by decide +kernel) (Nat.le_of_ble_eq_true rfl) (S_X3_doorsOf x0 x1 hx0 I L _ h)
def f_X3_sittingIn_28 (k4 : Nat → Int32 → Int32 → Int32 → MI → ML → Option (Int32)) (x0 : Nat) (x1 : Int32) (x2 : Int32) (x3 : Int32) (I : MI) (L : ML) : Option (Int32) := k4 x0 x1 x2 (x3 + 1) I L
set_option maxRecDepth 100000 in
theorem S_X3_sittingIn_28 {g : Gx} {k4 : Nat → Int32 → Int32 → Int32 → MI → ML → Option (Int32)} (hk4 : ∀ (x0z : Nat) (x1z : Int32) (x2z : Int32) (x3z : Int32) (hx0z : isH x0z) (I : MI) (L : ML) (res : Int32), k4 x0z x1z x2z x3z I L = some res → E g 1 0 mX3_sittingIn 4 [(0, .ref x0z), (1, .int x1z), (2, .int x2z), (3, .int x3z)] [] (I, L) (.inl (some (.int res))) (I, L)) (x0 : Nat) (x1 : Int32) (x2 : Int32) (x3 : Int32) (hx0 : isH x0) (I : MI) (L : ML) (res : Int32) (h : f_X3_sittingIn_28 k4 x0 x1 x2 x3 I L = some res) : E g 1 0 mX3_sittingIn 28 [(0, .ref x0), (1, .int x1), (2, .int x2), (3, .int x3)] [] (I, L) (.inl (some (.int res))) (I, L) := by
  unfold f_X3_sittingIn_28 at h
  refine E_iinc (M := mX3_sittingIn) (j := 3) (v := x3 + 1) (lv' := [(3, .int (x3 + 1)), (0, .ref x0), (1, .int x1), (2, .int x2)]) 31 rfl dX3_sittingIn_28 rfl rfl (Nat.le_of_ble_eq_true rfl) rfl ?_
  refine E_goto (M := mX3_sittingIn) 4 (by decide) dX3_sittingIn_31 ?_
  refine E_sub (M := mX3_sittingIn) (lv' := [(0, .ref x0), (1, .int x1), (2, .int x2), (3, .int (x3 + 1))]) [1, 2, 3, 0] rfl ?_
  exact hk4 x0 x1 x2 (x3 + 1) hx0 I L _ h
def f_X3_sittingIn_4 : Nat → Nat → Int32 → Int32 → Int32 → MI → ML → Option (Int32)
  | 0, _, _, _, _, _, _ => none
  | n + 1, x0, x1, x2, x3, I, L => if (I x0 2) ≤ x3 then (some x2) else (Option.bind (ldR (x0 + 27) 6 x3) fun v2 => if (I v2 0) = x1 then (f_X3_sittingIn_28 (f_X3_sittingIn_4 n) x0 x1 (x2 + 1) x3 I L) else (f_X3_sittingIn_28 (f_X3_sittingIn_4 n) x0 x1 x2 x3 I L))
set_option maxRecDepth 100000 in
theorem S_X3_sittingIn_4 {g : Gx} : ∀ (n : Nat) (x0 : Nat) (x1 : Int32) (x2 : Int32) (x3 : Int32) (hx0 : isH x0) (I : MI) (L : ML) (res : Int32), f_X3_sittingIn_4 n x0 x1 x2 x3 I L = some res → E g 1 0 mX3_sittingIn 4 [(0, .ref x0), (1, .int x1), (2, .int x2), (3, .int x3)] [] (I, L) (.inl (some (.int res))) (I, L) := by
  intro n
  induction n with
  | zero =>
    intros
    rename_i h
    cases h
  | succ n ih =>
    intro x0 x1 x2 x3 hx0 I L res h
    rw [f_X3_sittingIn_4] at h
    refine E_iload_n (M := mX3_sittingIn) 5 rfl dX3_sittingIn_4 rfl 3 rfl ?_
    refine E_aload_n (M := mX3_sittingIn) 6 rfl dX3_sittingIn_5 rfl 0 rfl ?_
    refine E_gI (M := mX3_sittingIn) 9 rfl dX3_sittingIn_6 (sh_H hx0) fl_X3_18 rfl ?_
    refine E_icmp_ge (M := mX3_sittingIn) 34 12 (by decide) rfl dX3_sittingIn_9 (fun c1 => ?_) (fun c1 => ?_)
    · rw [if_pos c1] at h
      refine E_iload_n (M := mX3_sittingIn) 35 rfl dX3_sittingIn_34 rfl 2 rfl ?_
      cases h
      exact E_iret (M := mX3_sittingIn) rfl dX3_sittingIn_35
    · rw [if_neg c1] at h
      refine E_aload_n (M := mX3_sittingIn) 13 rfl dX3_sittingIn_12 rfl 0 rfl ?_
      refine E_gR (M := mX3_sittingIn) (x0 + 3) 16 rfl dX3_sittingIn_13 (sh_H hx0) fl_X3_36 rfl (rt_H6 hx0) (H_lt hx0 3 (by decide)) ?_
      refine E_iload_n (M := mX3_sittingIn) 17 rfl dX3_sittingIn_16 rfl 3 rfl ?_
      replace h := Option.bind_eq_some_iff.mp h
      obtain ⟨v2, hv2, h⟩ := h
      refine E_ldE (M := mX3_sittingIn) hx0 18 rfl dX3_sittingIn_17 hv2 ?_
      refine E_gI (M := mX3_sittingIn) 21 rfl dX3_sittingIn_18 (sh_E (isE_ld hx0 hv2)) fl_X3_116 rfl ?_
      refine E_iload_n (M := mX3_sittingIn) 22 rfl dX3_sittingIn_21 rfl 1 rfl ?_
      refine E_icmp_ne (M := mX3_sittingIn) 28 25 (by decide) rfl dX3_sittingIn_22 (fun c3 => ?_) (fun c3 => ?_)
      · rw [if_neg c3] at h
        refine E_sub (M := mX3_sittingIn) (lv' := [(0, .ref x0), (1, .int x1), (2, .int x2), (3, .int x3)]) [0, 1, 2, 3] rfl ?_
        exact S_X3_sittingIn_28 ih x0 x1 x2 x3 hx0 I L _ h
      · rw [if_pos c3] at h
        refine E_iinc (M := mX3_sittingIn) (j := 2) (v := x2 + 1) (lv' := [(2, .int (x2 + 1)), (0, .ref x0), (1, .int x1), (3, .int x3)]) 28 rfl dX3_sittingIn_25 rfl rfl (Nat.le_of_ble_eq_true rfl) rfl ?_
        refine E_sub (M := mX3_sittingIn) (lv' := [(0, .ref x0), (1, .int x1), (2, .int (x2 + 1)), (3, .int x3)]) [1, 2, 0, 3] rfl ?_
        exact S_X3_sittingIn_28 ih x0 x1 (x2 + 1) x3 hx0 I L _ h
def f_X3_sittingIn (x0 : Nat) (x1 : Int32) (I : MI) (L : ML) : Option (Int32) := f_X3_sittingIn_4 FU x0 x1 0 0 I L
set_option maxRecDepth 100000 in
theorem S_X3_sittingIn {g : Gx} (x0 : Nat) (x1 : Int32) (hx0 : isH x0) (I : MI) (L : ML) (res : Int32) (h : f_X3_sittingIn x0 x1 I L = some res) : E g 1 0 mX3_sittingIn 0 [(0, .ref x0), (1, .int x1)] [] (I, L) (.inl (some (.int res))) (I, L) := by
  unfold f_X3_sittingIn at h
  refine E_iconst (M := mX3_sittingIn) (v := 0) 1 rfl dX3_sittingIn_0 (by decide) ?_
  refine E_istore_n (M := mX3_sittingIn) (lv' := [(2, .int 0), (0, .ref x0), (1, .int x1)]) 2 rfl dX3_sittingIn_1 rfl (Nat.le_of_ble_eq_true rfl) rfl ?_
  refine E_iconst (M := mX3_sittingIn) (v := 0) 3 rfl dX3_sittingIn_2 (by decide) ?_
  refine E_istore_n (M := mX3_sittingIn) (lv' := [(3, .int 0), (2, .int 0), (0, .ref x0), (1, .int x1)]) 4 rfl dX3_sittingIn_3 rfl (Nat.le_of_ble_eq_true rfl) rfl ?_
  refine E_sub (M := mX3_sittingIn) (lv' := [(0, .ref x0), (1, .int x1), (2, .int 0), (3, .int 0)]) [2, 3, 1, 0] rfl ?_
  exact S_X3_sittingIn_4 FU x0 x1 0 0 hx0 I L _ h
theorem C_X3_sittingIn {g : Gx} {x0 : Nat} {x1 : Int32} (hx0 : isH x0) {I : MI} {L : ML} {res : Int32} (h : f_X3_sittingIn x0 x1 I L = some res) : Ent g 1 0 mX3_sittingIn [.ref x0, .int x1] (I, L) (.inl (some (.int res))) (I, L) := Ent_of (by decide +kernel) (Nat.le_of_ble_eq_true rfl) (S_X3_sittingIn x0 x1 hx0 I L _ h)
def f_X3_reach_39 (y0 : Int32) (I : MI) (L : ML) : Option (Int32) := some y0
set_option maxRecDepth 100000 in
theorem S_X3_reach_39 {g : Gx} (y0 : Int32) (I : MI) (L : ML) (res : Int32) (h : f_X3_reach_39 y0 I L = some res) : E g 5 0 mX3_reach 39 [] [.int y0] (I, L) (.inl (some (.int res))) (I, L) := by
  unfold f_X3_reach_39 at h
  cases h
  exact E_iret (M := mX3_reach) rfl dX3_reach_39
def f_X3_reach (x0 : Nat) (x1 : Int32) (x2 : Int32) (x3 : Int32) (I : MI) (L : ML) : Option (Int32) := Option.bind (ldI I (x0 + 11) 100 ((x1 * 10) + x3)) fun v1 => if v1 < 100000 then (Option.bind (ldI I (x0 + 1) 10 x1) fun v3 => f_X3_reach_39 (if 0 < ((x2 - v1) - v3) then ((x2 - v1) - v3) else 0) I L) else (f_X3_reach_39 0 I L)
set_option maxRecDepth 100000 in
theorem S_X3_reach {g : Gx} (x0 : Nat) (x1 : Int32) (x2 : Int32) (x3 : Int32) (hx0 : isH x0) (I : MI) (L : ML) (res : Int32) (h : f_X3_reach x0 x1 x2 x3 I L = some res) : E g 5 0 mX3_reach 0 [(0, .ref x0), (1, .int x1), (2, .int x2), (3, .int x3)] [] (I, L) (.inl (some (.int res))) (I, L) := by
  unfold f_X3_reach at h
  refine E_aload_n (M := mX3_reach) 1 rfl dX3_reach_0 rfl 0 rfl ?_
  refine E_gR (M := mX3_reach) (x0 + 11) 4 rfl dX3_reach_1 (sh_H hx0) fl_X3_53 rfl (rt_H9 hx0) (H_lt hx0 11 (by decide)) ?_
  refine E_iload_n (M := mX3_reach) 5 rfl dX3_reach_4 rfl 1 rfl ?_
  refine E_bipush (M := mX3_reach) (v := 10) 7 rfl dX3_reach_5 (by decide) ?_
  refine E_imul (M := mX3_reach) 8 rfl dX3_reach_7 ?_
  refine E_iload_n (M := mX3_reach) 9 rfl dX3_reach_8 rfl 3 rfl ?_
  refine E_iadd (M := mX3_reach) 10 rfl dX3_reach_9 ?_
  replace h := Option.bind_eq_some_iff.mp h
  obtain ⟨v1, hv1, h⟩ := h
  refine E_ldI (M := mX3_reach) 11 rfl dX3_reach_10 (sh_H11 hx0) hv1 ?_
  refine E_istore (M := mX3_reach) (lv' := [(4, .int v1), (0, .ref x0), (1, .int x1), (2, .int x2), (3, .int x3)]) 13 rfl dX3_reach_11 (Nat.le_of_ble_eq_true rfl) rfl ?_
  refine E_iload (M := mX3_reach) 15 rfl dX3_reach_13 0 rfl ?_
  refine E_ldc (M := mX3_reach) 17 rfl dX3_reach_15 cst_X3_131 ?_
  refine E_icmp_lt (M := mX3_reach) 24 20 (by decide) rfl dX3_reach_17 (fun c2 => ?_) (fun c2 => ?_)
  · rw [if_pos c2] at h
    refine E_iconst (M := mX3_reach) (v := 0) 25 rfl dX3_reach_24 (by decide) ?_
    refine E_iload_n (M := mX3_reach) 26 rfl dX3_reach_25 rfl 3 rfl ?_
    refine E_iload (M := mX3_reach) 28 rfl dX3_reach_26 0 rfl ?_
    refine E_isub (M := mX3_reach) 29 rfl dX3_reach_28 ?_
    refine E_aload_n (M := mX3_reach) 30 rfl dX3_reach_29 rfl 1 rfl ?_
    refine E_gR (M := mX3_reach) (x0 + 1) 33 rfl dX3_reach_30 (sh_H hx0) fl_X3_24 rfl (rt_H4 hx0) (H_lt hx0 1 (by decide)) ?_
    refine E_iload_n (M := mX3_reach) 34 rfl dX3_reach_33 rfl 2 rfl ?_
    replace h := Option.bind_eq_some_iff.mp h
    obtain ⟨v3, hv3, h⟩ := h
    refine E_ldI (M := mX3_reach) 35 rfl dX3_reach_34 (sh_H1 hx0) hv3 ?_
    refine E_isub (M := mX3_reach) 36 rfl dX3_reach_35 ?_
    refine E_max (M := mX3_reach) 39 rfl dX3_reach_36 jm_X3_143 (by decide) (Nat.le_of_ble_eq_true rfl) ?_
    refine E_sub (M := mX3_reach) (lv' := []) [] rfl ?_
    exact S_X3_reach_39 (if 0 < ((x2 - v1) - v3) then ((x2 - v1) - v3) else 0) I L _ h
  · rw [if_neg c2] at h
    refine E_iconst (M := mX3_reach) (v := 0) 21 rfl dX3_reach_20 (by decide) ?_
    refine E_goto (M := mX3_reach) 39 (by decide) dX3_reach_21 ?_
    refine E_sub (M := mX3_reach) (lv' := []) [] rfl ?_
    exact S_X3_reach_39 0 I L _ h
theorem C_X3_reach {g : Gx} {x0 : Nat} {x1 : Int32} {x2 : Int32} {x3 : Int32} (hx0 : isH x0) {I : MI} {L : ML} {res : Int32} (h : f_X3_reach x0 x1 x2 x3 I L = some res) : Ent g 5 0 mX3_reach [.ref x0, .int x1, .int x2, .int x3] (I, L) (.inl (some (.int res))) (I, L) := Ent_of (by decide +kernel) (Nat.le_of_ble_eq_true rfl) (S_X3_reach x0 x1 x2 x3 hx0 I L _ h)
def f_X3_loudAt (x0 : Nat) (x1 : Nat) (x2 : Int32) (I : MI) (L : ML) : Option (Int32) := Option.bind (f_X3_reach x0 (I x1 2) ((I x1 4) - (I x1 6)) x2 I L) fun v1 => some v1
set_option maxRecDepth 100000 in
theorem S_X3_loudAt {g : Gx} (x0 : Nat) (x1 : Nat) (x2 : Int32) (hx0 : isH x0) (hx1 : isN x1) (I : MI) (L : ML) (res : Int32) (h : f_X3_loudAt x0 x1 x2 I L = some res) : E g 6 0 mX3_loudAt 0 [(0, .ref x0), (1, .ref x1), (2, .int x2)] [] (I, L) (.inl (some (.int res))) (I, L) := by
  unfold f_X3_loudAt at h
  refine E_aload_n (M := mX3_loudAt) 1 rfl dX3_loudAt_0 rfl 0 rfl ?_
  refine E_aload_n (M := mX3_loudAt) 2 rfl dX3_loudAt_1 rfl 1 rfl ?_
  refine E_gI (M := mX3_loudAt) 5 rfl dX3_loudAt_2 (sh_N hx1) fl_X3_146 rfl ?_
  refine E_aload_n (M := mX3_loudAt) 6 rfl dX3_loudAt_5 rfl 1 rfl ?_
  refine E_gI (M := mX3_loudAt) 9 rfl dX3_loudAt_6 (sh_N hx1) fl_X3_147 rfl ?_
  refine E_aload_n (M := mX3_loudAt) 10 rfl dX3_loudAt_9 rfl 1 rfl ?_
  refine E_gI (M := mX3_loudAt) 13 rfl dX3_loudAt_10 (sh_N hx1) fl_X3_150 rfl ?_
  refine E_isub (M := mX3_loudAt) 14 rfl dX3_loudAt_13 ?_
  refine E_iload_n (M := mX3_loudAt) 15 rfl dX3_loudAt_14 rfl 2 rfl ?_
  replace h := Option.bind_eq_some_iff.mp h
  obtain ⟨v1, hv1, h⟩ := h
  refine E_cV1 (M := mX3_loudAt) (As := [.int (I x1 2), .int ((I x1 4) - (I x1 6)), .int x2]) 18 rfl dX3_loudAt_15 (sh_H hx0) ck_X3_153 cv_X3_reach rfl (by decide) (Nat.le_of_ble_eq_true rfl) (C_X3_reach (g := g) hx0 hv1) rfl ?_
  cases h
  exact E_iret (M := mX3_loudAt) rfl dX3_loudAt_18
theorem C_X3_loudAt {g : Gx} {x0 : Nat} {x1 : Nat} {x2 : Int32} (hx0 : isH x0) (hx1 : isN x1) {I : MI} {L : ML} {res : Int32} (h : f_X3_loudAt x0 x1 x2 I L = some res) : Ent g 6 0 mX3_loudAt [.ref x0, .ref x1, .int x2] (I, L) (.inl (some (.int res))) (I, L) := Ent_of (by decide +kernel) (Nat.le_of_ble_eq_true rfl) (S_X3_loudAt x0 x1 x2 hx0 hx1 I L _ h)
def f_X3_loudnessOf_4 : Nat → Nat → Int32 → Int32 → Int32 → MI → ML → Option (Int32)
  | 0, _, _, _, _, _, _ => none
  | n + 1, x0, x1, x2, x3, I, L => if (I x0 3) ≤ x3 then (some x2) else (Option.bind (ldR (x0 + 33) 12 x3) fun v2 => Option.bind (f_X3_loudAt x0 v2 x1 I L) fun v3 => f_X3_loudnessOf_4 n x0 x1 (x2 + v3) (x3 + 1) I L)
set_option maxRecDepth 100000 in
theorem S_X3_loudnessOf_4 {g : Gx} : ∀ (n : Nat) (x0 : Nat) (x1 : Int32) (x2 : Int32) (x3 : Int32) (hx0 : isH x0) (I : MI) (L : ML) (res : Int32), f_X3_loudnessOf_4 n x0 x1 x2 x3 I L = some res → E g 7 0 mX3_loudnessOf 4 [(0, .ref x0), (1, .int x1), (2, .int x2), (3, .int x3)] [] (I, L) (.inl (some (.int res))) (I, L) := by
  intro n
  induction n with
  | zero =>
    intros
    rename_i h
    cases h
  | succ n ih =>
    intro x0 x1 x2 x3 hx0 I L res h
    rw [f_X3_loudnessOf_4] at h
    refine E_iload_n (M := mX3_loudnessOf) 5 rfl dX3_loudnessOf_4 rfl 3 rfl ?_
    refine E_aload_n (M := mX3_loudnessOf) 6 rfl dX3_loudnessOf_5 rfl 0 rfl ?_
    refine E_gI (M := mX3_loudnessOf) 9 rfl dX3_loudnessOf_6 (sh_H hx0) fl_X3_21 rfl ?_
    refine E_icmp_ge (M := mX3_loudnessOf) 32 12 (by decide) rfl dX3_loudnessOf_9 (fun c1 => ?_) (fun c1 => ?_)
    · rw [if_pos c1] at h
      refine E_iload_n (M := mX3_loudnessOf) 33 rfl dX3_loudnessOf_32 rfl 2 rfl ?_
      cases h
      exact E_iret (M := mX3_loudnessOf) rfl dX3_loudnessOf_33
    · rw [if_neg c1] at h
      refine E_iload_n (M := mX3_loudnessOf) 13 rfl dX3_loudnessOf_12 rfl 2 rfl ?_
      refine E_aload_n (M := mX3_loudnessOf) 14 rfl dX3_loudnessOf_13 rfl 0 rfl ?_
      refine E_aload_n (M := mX3_loudnessOf) 15 rfl dX3_loudnessOf_14 rfl 0 rfl ?_
      refine E_gR (M := mX3_loudnessOf) (x0 + 4) 18 rfl dX3_loudnessOf_15 (sh_H hx0) fl_X3_42 rfl (rt_H7 hx0) (H_lt hx0 4 (by decide)) ?_
      refine E_iload_n (M := mX3_loudnessOf) 19 rfl dX3_loudnessOf_18 rfl 3 rfl ?_
      replace h := Option.bind_eq_some_iff.mp h
      obtain ⟨v2, hv2, h⟩ := h
      refine E_ldN (M := mX3_loudnessOf) hx0 20 rfl dX3_loudnessOf_19 hv2 ?_
      refine E_iload_n (M := mX3_loudnessOf) 21 rfl dX3_loudnessOf_20 rfl 1 rfl ?_
      replace h := Option.bind_eq_some_iff.mp h
      obtain ⟨v3, hv3, h⟩ := h
      refine E_cV1 (M := mX3_loudnessOf) (As := [.ref v2, .int x1]) 24 rfl dX3_loudnessOf_21 (sh_H hx0) ck_X3_157 cv_X3_loudAt rfl (by decide) (Nat.le_of_ble_eq_true rfl) (C_X3_loudAt (g := g) hx0 (isN_ld hx0 hv2) hv3) rfl ?_
      refine E_iadd (M := mX3_loudnessOf) 25 rfl dX3_loudnessOf_24 ?_
      refine E_istore_n (M := mX3_loudnessOf) (lv' := [(2, .int (x2 + v3)), (0, .ref x0), (1, .int x1), (3, .int x3)]) 26 rfl dX3_loudnessOf_25 rfl (Nat.le_of_ble_eq_true rfl) rfl ?_
      refine E_iinc (M := mX3_loudnessOf) (j := 3) (v := x3 + 1) (lv' := [(3, .int (x3 + 1)), (2, .int (x2 + v3)), (0, .ref x0), (1, .int x1)]) 29 rfl dX3_loudnessOf_26 rfl rfl (Nat.le_of_ble_eq_true rfl) rfl ?_
      refine E_goto (M := mX3_loudnessOf) 4 (by decide) dX3_loudnessOf_29 ?_
      refine E_sub (M := mX3_loudnessOf) (lv' := [(0, .ref x0), (1, .int x1), (2, .int (x2 + v3)), (3, .int (x3 + 1))]) [2, 3, 1, 0] rfl ?_
      exact ih x0 x1 (x2 + v3) (x3 + 1) hx0 I L _ h
def f_X3_loudnessOf (x0 : Nat) (x1 : Int32) (I : MI) (L : ML) : Option (Int32) := f_X3_loudnessOf_4 FU x0 x1 0 0 I L
set_option maxRecDepth 100000 in
theorem S_X3_loudnessOf {g : Gx} (x0 : Nat) (x1 : Int32) (hx0 : isH x0) (I : MI) (L : ML) (res : Int32) (h : f_X3_loudnessOf x0 x1 I L = some res) : E g 7 0 mX3_loudnessOf 0 [(0, .ref x0), (1, .int x1)] [] (I, L) (.inl (some (.int res))) (I, L) := by
  unfold f_X3_loudnessOf at h
  refine E_iconst (M := mX3_loudnessOf) (v := 0) 1 rfl dX3_loudnessOf_0 (by decide) ?_
  refine E_istore_n (M := mX3_loudnessOf) (lv' := [(2, .int 0), (0, .ref x0), (1, .int x1)]) 2 rfl dX3_loudnessOf_1 rfl (Nat.le_of_ble_eq_true rfl) rfl ?_
  refine E_iconst (M := mX3_loudnessOf) (v := 0) 3 rfl dX3_loudnessOf_2 (by decide) ?_
  refine E_istore_n (M := mX3_loudnessOf) (lv' := [(3, .int 0), (2, .int 0), (0, .ref x0), (1, .int x1)]) 4 rfl dX3_loudnessOf_3 rfl (Nat.le_of_ble_eq_true rfl) rfl ?_
  refine E_sub (M := mX3_loudnessOf) (lv' := [(0, .ref x0), (1, .int x1), (2, .int 0), (3, .int 0)]) [2, 3, 1, 0] rfl ?_
  exact S_X3_loudnessOf_4 FU x0 x1 0 0 hx0 I L _ h
theorem C_X3_loudnessOf {g : Gx} {x0 : Nat} {x1 : Int32} (hx0 : isH x0) {I : MI} {L : ML} {res : Int32} (h : f_X3_loudnessOf x0 x1 I L = some res) : Ent g 7 0 mX3_loudnessOf [.ref x0, .int x1] (I, L) (.inl (some (.int res))) (I, L) := Ent_of (by decide +kernel) (Nat.le_of_ble_eq_true rfl) (S_X3_loudnessOf x0 x1 hx0 I L _ h)
def f_X3_heardLoudness_35 (y0 : Int32) (I : MI) (L : ML) : Option (Int32) := some y0
set_option maxRecDepth 100000 in
theorem S_X3_heardLoudness_35 {g : Gx} (y0 : Int32) (I : MI) (L : ML) (res : Int32) (h : f_X3_heardLoudness_35 y0 I L = some res) : E g 6 0 mX3_heardLoudness 35 [] [.int y0] (I, L) (.inl (some (.int res))) (I, L) := by
  unfold f_X3_heardLoudness_35 at h
  cases h
  exact E_iret (M := mX3_heardLoudness) rfl dX3_heardLoudness_35
def f_X3_heardLoudness (x0 : Nat) (x1 : Nat) (x2 : Nat) (I : MI) (L : ML) : Option (Int32) := Option.bind (f_X3_reach x0 (I x2 2) ((I x2 4) - (I x2 6)) (I x1 0) I L) fun v1 => if v1 < (I x1 1) then (f_X3_heardLoudness_35 0 I L) else (f_X3_heardLoudness_35 v1 I L)
set_option maxRecDepth 100000 in
theorem S_X3_heardLoudness {g : Gx} (x0 : Nat) (x1 : Nat) (x2 : Nat) (hx0 : isH x0) (hx1 : isE x1) (hx2 : isN x2) (I : MI) (L : ML) (res : Int32) (h : f_X3_heardLoudness x0 x1 x2 I L = some res) : E g 6 0 mX3_heardLoudness 0 [(0, .ref x0), (1, .ref x1), (2, .ref x2)] [] (I, L) (.inl (some (.int res))) (I, L) := by
  unfold f_X3_heardLoudness at h
  refine E_aload_n (M := mX3_heardLoudness) 1 rfl dX3_heardLoudness_0 rfl 0 rfl ?_
  refine E_aload_n (M := mX3_heardLoudness) 2 rfl dX3_heardLoudness_1 rfl 2 rfl ?_
  refine E_gI (M := mX3_heardLoudness) 5 rfl dX3_heardLoudness_2 (sh_N hx2) fl_X3_146 rfl ?_
  refine E_aload_n (M := mX3_heardLoudness) 6 rfl dX3_heardLoudness_5 rfl 2 rfl ?_
  refine E_gI (M := mX3_heardLoudness) 9 rfl dX3_heardLoudness_6 (sh_N hx2) fl_X3_147 rfl ?_
  refine E_aload_n (M := mX3_heardLoudness) 10 rfl dX3_heardLoudness_9 rfl 2 rfl ?_
  refine E_gI (M := mX3_heardLoudness) 13 rfl dX3_heardLoudness_10 (sh_N hx2) fl_X3_150 rfl ?_
  refine E_isub (M := mX3_heardLoudness) 14 rfl dX3_heardLoudness_13 ?_
  refine E_aload_n (M := mX3_heardLoudness) 15 rfl dX3_heardLoudness_14 rfl 1 rfl ?_
  refine E_gI (M := mX3_heardLoudness) 18 rfl dX3_heardLoudness_15 (sh_E hx1) fl_X3_116 rfl ?_
  replace h := Option.bind_eq_some_iff.mp h
  obtain ⟨v1, hv1, h⟩ := h
  refine E_cV1 (M := mX3_heardLoudness) (As := [.int (I x2 2), .int ((I x2 4) - (I x2 6)), .int (I x1 0)]) 21 rfl dX3_heardLoudness_18 (sh_H hx0) ck_X3_153 cv_X3_reach rfl (by decide) (Nat.le_of_ble_eq_true rfl) (C_X3_reach (g := g) hx0 hv1) rfl ?_
  refine E_istore_n (M := mX3_heardLoudness) (lv' := [(3, .int v1), (0, .ref x0), (1, .ref x1), (2, .ref x2)]) 22 rfl dX3_heardLoudness_21 rfl (Nat.le_of_ble_eq_true rfl) rfl ?_
  refine E_iload_n (M := mX3_heardLoudness) 23 rfl dX3_heardLoudness_22 rfl 0 rfl ?_
  refine E_aload_n (M := mX3_heardLoudness) 24 rfl dX3_heardLoudness_23 rfl 2 rfl ?_
  refine E_gI (M := mX3_heardLoudness) 27 rfl dX3_heardLoudness_24 (sh_E hx1) fl_X3_119 rfl ?_
  refine E_icmp_lt (M := mX3_heardLoudness) 34 30 (by decide) rfl dX3_heardLoudness_27 (fun c2 => ?_) (fun c2 => ?_)
  · rw [if_pos c2] at h
    refine E_iconst (M := mX3_heardLoudness) (v := 0) 35 rfl dX3_heardLoudness_34 (by decide) ?_
    refine E_sub (M := mX3_heardLoudness) (lv' := []) [] rfl ?_
    exact S_X3_heardLoudness_35 0 I L _ h
  · rw [if_neg c2] at h
    refine E_iload_n (M := mX3_heardLoudness) 31 rfl dX3_heardLoudness_30 rfl 0 rfl ?_
    refine E_goto (M := mX3_heardLoudness) 35 (by decide) dX3_heardLoudness_31 ?_
    refine E_sub (M := mX3_heardLoudness) (lv' := []) [] rfl ?_
    exact S_X3_heardLoudness_35 v1 I L _ h
theorem C_X3_heardLoudness {g : Gx} {x0 : Nat} {x1 : Nat} {x2 : Nat} (hx0 : isH x0) (hx1 : isE x1) (hx2 : isN x2) {I : MI} {L : ML} {res : Int32} (h : f_X3_heardLoudness x0 x1 x2 I L = some res) : Ent g 6 0 mX3_heardLoudness [.ref x0, .ref x1, .ref x2] (I, L) (.inl (some (.int res))) (I, L) := Ent_of (by decide +kernel) (Nat.le_of_ble_eq_true rfl) (S_X3_heardLoudness x0 x1 x2 hx0 hx1 hx2 I L _ h)
def f_X3_heardBy_32 (k4 : Nat → Nat → Int32 → Int32 → MI → ML → Option (Int32)) (x0 : Nat) (x1 : Nat) (x2 : Int32) (x3 : Int32) (I : MI) (L : ML) : Option (Int32) := k4 x0 x1 x2 (x3 + 1) I L
set_option maxRecDepth 100000 in
theorem S_X3_heardBy_32 {g : Gx} {k4 : Nat → Nat → Int32 → Int32 → MI → ML → Option (Int32)} (hk4 : ∀ (x0z : Nat) (x1z : Nat) (x2z : Int32) (x3z : Int32) (hx0z : isH x0z) (hx1z : isE x1z) (I : MI) (L : ML) (res : Int32), k4 x0z x1z x2z x3z I L = some res → E g 7 0 mX3_heardBy 4 [(0, .ref x0z), (1, .ref x1z), (2, .int x2z), (3, .int x3z)] [] (I, L) (.inl (some (.int res))) (I, L)) (x0 : Nat) (x1 : Nat) (x2 : Int32) (x3 : Int32) (hx0 : isH x0) (hx1 : isE x1) (I : MI) (L : ML) (res : Int32) (h : f_X3_heardBy_32 k4 x0 x1 x2 x3 I L = some res) : E g 7 0 mX3_heardBy 32 [(0, .ref x0), (1, .ref x1), (2, .int x2), (3, .int x3)] [] (I, L) (.inl (some (.int res))) (I, L) := by
  unfold f_X3_heardBy_32 at h
  refine E_iinc (M := mX3_heardBy) (j := 3) (v := x3 + 1) (lv' := [(3, .int (x3 + 1)), (0, .ref x0), (1, .ref x1), (2, .int x2)]) 35 rfl dX3_heardBy_32 rfl rfl (Nat.le_of_ble_eq_true rfl) rfl ?_
  refine E_goto (M := mX3_heardBy) 4 (by decide) dX3_heardBy_35 ?_
  refine E_sub (M := mX3_heardBy) (lv' := [(0, .ref x0), (1, .ref x1), (2, .int x2), (3, .int (x3 + 1))]) [1, 2, 3, 0] rfl ?_
  exact hk4 x0 x1 x2 (x3 + 1) hx0 hx1 I L _ h
def f_X3_heardBy_4 : Nat → Nat → Nat → Int32 → Int32 → MI → ML → Option (Int32)
  | 0, _, _, _, _, _, _ => none
  | n + 1, x0, x1, x2, x3, I, L => if (I x0 3) ≤ x3 then (some x2) else (Option.bind (ldR (x0 + 33) 12 x3) fun v2 => Option.bind (f_X3_heardLoudness x0 x1 v2 I L) fun v3 => if v3 ≤ 0 then (f_X3_heardBy_32 (f_X3_heardBy_4 n) x0 x1 x2 x3 I L) else (f_X3_heardBy_32 (f_X3_heardBy_4 n) x0 x1 (x2 ||| (1 <<< (x3 &&& 31))) x3 I L))
set_option maxRecDepth 100000 in
theorem S_X3_heardBy_4 {g : Gx} : ∀ (n : Nat) (x0 : Nat) (x1 : Nat) (x2 : Int32) (x3 : Int32) (hx0 : isH x0) (hx1 : isE x1) (I : MI) (L : ML) (res : Int32), f_X3_heardBy_4 n x0 x1 x2 x3 I L = some res → E g 7 0 mX3_heardBy 4 [(0, .ref x0), (1, .ref x1), (2, .int x2), (3, .int x3)] [] (I, L) (.inl (some (.int res))) (I, L) := by
  intro n
  induction n with
  | zero =>
    intros
    rename_i h
    cases h
  | succ n ih =>
    intro x0 x1 x2 x3 hx0 hx1 I L res h
    rw [f_X3_heardBy_4] at h
    refine E_iload_n (M := mX3_heardBy) 5 rfl dX3_heardBy_4 rfl 3 rfl ?_
    refine E_aload_n (M := mX3_heardBy) 6 rfl dX3_heardBy_5 rfl 0 rfl ?_
    refine E_gI (M := mX3_heardBy) 9 rfl dX3_heardBy_6 (sh_H hx0) fl_X3_21 rfl ?_
    refine E_icmp_ge (M := mX3_heardBy) 38 12 (by decide) rfl dX3_heardBy_9 (fun c1 => ?_) (fun c1 => ?_)
    · rw [if_pos c1] at h
      refine E_iload_n (M := mX3_heardBy) 39 rfl dX3_heardBy_38 rfl 2 rfl ?_
      cases h
      exact E_iret (M := mX3_heardBy) rfl dX3_heardBy_39
    · rw [if_neg c1] at h
      refine E_aload_n (M := mX3_heardBy) 13 rfl dX3_heardBy_12 rfl 0 rfl ?_
      refine E_aload_n (M := mX3_heardBy) 14 rfl dX3_heardBy_13 rfl 1 rfl ?_
      refine E_aload_n (M := mX3_heardBy) 15 rfl dX3_heardBy_14 rfl 0 rfl ?_
      refine E_gR (M := mX3_heardBy) (x0 + 4) 18 rfl dX3_heardBy_15 (sh_H hx0) fl_X3_42 rfl (rt_H7 hx0) (H_lt hx0 4 (by decide)) ?_
      refine E_iload_n (M := mX3_heardBy) 19 rfl dX3_heardBy_18 rfl 3 rfl ?_
      replace h := Option.bind_eq_some_iff.mp h
      obtain ⟨v2, hv2, h⟩ := h
      refine E_ldN (M := mX3_heardBy) hx0 20 rfl dX3_heardBy_19 hv2 ?_
      replace h := Option.bind_eq_some_iff.mp h
      obtain ⟨v3, hv3, h⟩ := h
      refine E_cV1 (M := mX3_heardBy) (As := [.ref x1, .ref v2]) 23 rfl dX3_heardBy_20 (sh_H hx0) ck_X3_161 cv_X3_heardLoudness rfl (by decide) (Nat.le_of_ble_eq_true rfl) (C_X3_heardLoudness (g := g) hx0 hx1 (isN_ld hx0 hv2) hv3) rfl ?_
      refine E_if_le (M := mX3_heardBy) 32 26 (by decide) rfl dX3_heardBy_23 (fun c4 => ?_) (fun c4 => ?_)
      · rw [if_pos c4] at h
        refine E_sub (M := mX3_heardBy) (lv' := [(0, .ref x0), (1, .ref x1), (2, .int x2), (3, .int x3)]) [0, 1, 2, 3] rfl ?_
        exact S_X3_heardBy_32 ih x0 x1 x2 x3 hx0 hx1 I L _ h
      · rw [if_neg c4] at h
        refine E_iload_n (M := mX3_heardBy) 27 rfl dX3_heardBy_26 rfl 2 rfl ?_
        refine E_iconst (M := mX3_heardBy) (v := 1) 28 rfl dX3_heardBy_27 (by decide) ?_
        refine E_iload_n (M := mX3_heardBy) 29 rfl dX3_heardBy_28 rfl 3 rfl ?_
        refine E_ishl (M := mX3_heardBy) 30 rfl dX3_heardBy_29 ?_
        refine E_ior (M := mX3_heardBy) 31 rfl dX3_heardBy_30 ?_
        refine E_istore_n (M := mX3_heardBy) (lv' := [(2, .int (x2 ||| (1 <<< (x3 &&& 31)))), (0, .ref x0), (1, .ref x1), (3, .int x3)]) 32 rfl dX3_heardBy_31 rfl (Nat.le_of_ble_eq_true rfl) rfl ?_
        refine E_sub (M := mX3_heardBy) (lv' := [(0, .ref x0), (1, .ref x1), (2, .int (x2 ||| (1 <<< (x3 &&& 31)))), (3, .int x3)]) [1, 2, 0, 3] rfl ?_
        exact S_X3_heardBy_32 ih x0 x1 (x2 ||| (1 <<< (x3 &&& 31))) x3 hx0 hx1 I L _ h
def f_X3_heardBy (x0 : Nat) (x1 : Nat) (I : MI) (L : ML) : Option (Int32) := f_X3_heardBy_4 FU x0 x1 0 0 I L
set_option maxRecDepth 100000 in
theorem S_X3_heardBy {g : Gx} (x0 : Nat) (x1 : Nat) (hx0 : isH x0) (hx1 : isE x1) (I : MI) (L : ML) (res : Int32) (h : f_X3_heardBy x0 x1 I L = some res) : E g 7 0 mX3_heardBy 0 [(0, .ref x0), (1, .ref x1)] [] (I, L) (.inl (some (.int res))) (I, L) := by
  unfold f_X3_heardBy at h
  refine E_iconst (M := mX3_heardBy) (v := 0) 1 rfl dX3_heardBy_0 (by decide) ?_
  refine E_istore_n (M := mX3_heardBy) (lv' := [(2, .int 0), (0, .ref x0), (1, .ref x1)]) 2 rfl dX3_heardBy_1 rfl (Nat.le_of_ble_eq_true rfl) rfl ?_
  refine E_iconst (M := mX3_heardBy) (v := 0) 3 rfl dX3_heardBy_2 (by decide) ?_
  refine E_istore_n (M := mX3_heardBy) (lv' := [(3, .int 0), (2, .int 0), (0, .ref x0), (1, .ref x1)]) 4 rfl dX3_heardBy_3 rfl (Nat.le_of_ble_eq_true rfl) rfl ?_
  refine E_sub (M := mX3_heardBy) (lv' := [(0, .ref x0), (1, .ref x1), (2, .int 0), (3, .int 0)]) [2, 3, 1, 0] rfl ?_
  exact S_X3_heardBy_4 FU x0 x1 0 0 hx0 hx1 I L _ h
theorem C_X3_heardBy {g : Gx} {x0 : Nat} {x1 : Nat} (hx0 : isH x0) (hx1 : isE x1) {I : MI} {L : ML} {res : Int32} (h : f_X3_heardBy x0 x1 I L = some res) : Ent g 7 0 mX3_heardBy [.ref x0, .ref x1] (I, L) (.inl (some (.int res))) (I, L) := Ent_of (by decide +kernel) (Nat.le_of_ble_eq_true rfl) (S_X3_heardBy x0 x1 hx0 hx1 I L _ h)
def f_X3_isHeard_2 : Nat → Nat → Nat → Int32 → MI → ML → Option (Bool)
  | 0, _, _, _, _, _ => none
  | n + 1, x0, x1, x2, I, L => if (I x0 2) ≤ x2 then (some false) else (Option.bind (ldR (x0 + 27) 6 x2) fun v2 => Option.bind (f_X3_heardLoudness x0 v2 x1 I L) fun v3 => if v3 ≤ 0 then (f_X3_isHeard_2 n x0 x1 (x2 + 1) I L) else (some true))
set_option maxRecDepth 100000 in
theorem S_X3_isHeard_2 {g : Gx} : ∀ (n : Nat) (x0 : Nat) (x1 : Nat) (x2 : Int32) (hx0 : isH x0) (hx1 : isN x1) (I : MI) (L : ML) (res : Bool), f_X3_isHeard_2 n x0 x1 x2 I L = some res → E g 7 0 mX3_isHeard 2 [(0, .ref x0), (1, .ref x1), (2, .int x2)] [] (I, L) (.inl (some (.int (bI res)))) (I, L) := by
  intro n
  induction n with
  | zero =>
    intros
    rename_i h
    cases h
  | succ n ih =>
    intro x0 x1 x2 hx0 hx1 I L res h
    rw [f_X3_isHeard_2] at h
    refine E_iload_n (M := mX3_isHeard) 3 rfl dX3_isHeard_2 rfl 2 rfl ?_
    refine E_aload_n (M := mX3_isHeard) 4 rfl dX3_isHeard_3 rfl 0 rfl ?_
    refine E_gI (M := mX3_isHeard) 7 rfl dX3_isHeard_4 (sh_H hx0) fl_X3_18 rfl ?_
    refine E_icmp_ge (M := mX3_isHeard) 32 10 (by decide) rfl dX3_isHeard_7 (fun c1 => ?_) (fun c1 => ?_)
    · rw [if_pos c1] at h
      refine E_iconst (M := mX3_isHeard) (v := 0) 33 rfl dX3_isHeard_32 (by decide) ?_
      cases h
      exact E_zret (M := mX3_isHeard) (x := false) rfl dX3_isHeard_33
    · rw [if_neg c1] at h
      refine E_aload_n (M := mX3_isHeard) 11 rfl dX3_isHeard_10 rfl 0 rfl ?_
      refine E_aload_n (M := mX3_isHeard) 12 rfl dX3_isHeard_11 rfl 0 rfl ?_
      refine E_gR (M := mX3_isHeard) (x0 + 3) 15 rfl dX3_isHeard_12 (sh_H hx0) fl_X3_36 rfl (rt_H6 hx0) (H_lt hx0 3 (by decide)) ?_
      refine E_iload_n (M := mX3_isHeard) 16 rfl dX3_isHeard_15 rfl 2 rfl ?_
      replace h := Option.bind_eq_some_iff.mp h
      obtain ⟨v2, hv2, h⟩ := h
      refine E_ldE (M := mX3_isHeard) hx0 17 rfl dX3_isHeard_16 hv2 ?_
      refine E_aload_n (M := mX3_isHeard) 18 rfl dX3_isHeard_17 rfl 1 rfl ?_
      replace h := Option.bind_eq_some_iff.mp h
      obtain ⟨v3, hv3, h⟩ := h
      refine E_cV1 (M := mX3_isHeard) (As := [.ref v2, .ref x1]) 21 rfl dX3_isHeard_18 (sh_H hx0) ck_X3_161 cv_X3_heardLoudness rfl (by decide) (Nat.le_of_ble_eq_true rfl) (C_X3_heardLoudness (g := g) hx0 (isE_ld hx0 hv2) hx1 hv3) rfl ?_
      refine E_if_le (M := mX3_isHeard) 26 24 (by decide) rfl dX3_isHeard_21 (fun c4 => ?_) (fun c4 => ?_)
      · rw [if_pos c4] at h
        refine E_iinc (M := mX3_isHeard) (j := 2) (v := x2 + 1) (lv' := [(2, .int (x2 + 1)), (0, .ref x0), (1, .ref x1)]) 29 rfl dX3_isHeard_26 rfl rfl (Nat.le_of_ble_eq_true rfl) rfl ?_
        refine E_goto (M := mX3_isHeard) 2 (by decide) dX3_isHeard_29 ?_
        refine E_sub (M := mX3_isHeard) (lv' := [(0, .ref x0), (1, .ref x1), (2, .int (x2 + 1))]) [1, 2, 0] rfl ?_
        exact ih x0 x1 (x2 + 1) hx0 hx1 I L _ h
      · rw [if_neg c4] at h
        refine E_iconst (M := mX3_isHeard) (v := 1) 25 rfl dX3_isHeard_24 (by decide) ?_
        cases h
        exact E_zret (M := mX3_isHeard) (x := true) rfl dX3_isHeard_25
def f_X3_isHeard (x0 : Nat) (x1 : Nat) (I : MI) (L : ML) : Option (Bool) := f_X3_isHeard_2 FU x0 x1 0 I L
set_option maxRecDepth 100000 in
theorem S_X3_isHeard {g : Gx} (x0 : Nat) (x1 : Nat) (hx0 : isH x0) (hx1 : isN x1) (I : MI) (L : ML) (res : Bool) (h : f_X3_isHeard x0 x1 I L = some res) : E g 7 0 mX3_isHeard 0 [(0, .ref x0), (1, .ref x1)] [] (I, L) (.inl (some (.int (bI res)))) (I, L) := by
  unfold f_X3_isHeard at h
  refine E_iconst (M := mX3_isHeard) (v := 0) 1 rfl dX3_isHeard_0 (by decide) ?_
  refine E_istore_n (M := mX3_isHeard) (lv' := [(2, .int 0), (0, .ref x0), (1, .ref x1)]) 2 rfl dX3_isHeard_1 rfl (Nat.le_of_ble_eq_true rfl) rfl ?_
  refine E_sub (M := mX3_isHeard) (lv' := [(0, .ref x0), (1, .ref x1), (2, .int 0)]) [1, 2, 0] rfl ?_
  exact S_X3_isHeard_2 FU x0 x1 0 hx0 hx1 I L _ h
theorem C_X3_isHeard {g : Gx} {x0 : Nat} {x1 : Nat} (hx0 : isH x0) (hx1 : isN x1) {I : MI} {L : ML} {res : Bool} (h : f_X3_isHeard x0 x1 I L = some res) : Ent g 7 0 mX3_isHeard [.ref x0, .ref x1] (I, L) (.inl (some (.int (bI res)))) (I, L) := Ent_of (by decide +kernel) (Nat.le_of_ble_eq_true rfl) (S_X3_isHeard x0 x1 hx0 hx1 I L _ h)
def f_X3_weight (x0 : Nat) (x1 : Nat) (x2 : Int32) (x3 : Int32) (I : MI) (L : ML) : Option (Int32) := Option.bind (f_X3_loudAt x0 x1 x2 I L) fun v1 => some ((if 0 < (10 - (if 0 ≤ ((I x1 3) - x3) then ((I x1 3) - x3) else 0 - ((I x1 3) - x3))) then (10 - (if 0 ≤ ((I x1 3) - x3) then ((I x1 3) - x3) else 0 - ((I x1 3) - x3))) else 0) * v1)
set_option maxRecDepth 100000 in
theorem S_X3_weight {g : Gx} (x0 : Nat) (x1 : Nat) (x2 : Int32) (x3 : Int32) (hx0 : isH x0) (hx1 : isN x1) (I : MI) (L : ML) (res : Int32) (h : f_X3_weight x0 x1 x2 x3 I L = some res) : E g 7 0 mX3_weight 0 [(0, .ref x0), (1, .ref x1), (2, .int x2), (3, .int x3)] [] (I, L) (.inl (some (.int res))) (I, L) := by
  unfold f_X3_weight at h
  refine E_iconst (M := mX3_weight) (v := 0) 1 rfl dX3_weight_0 (by decide) ?_
  refine E_bipush (M := mX3_weight) (v := 10) 3 rfl dX3_weight_1 (by decide) ?_
  refine E_aload_n (M := mX3_weight) 4 rfl dX3_weight_3 rfl 1 rfl ?_
  refine E_gI (M := mX3_weight) 7 rfl dX3_weight_4 (sh_N hx1) fl_X3_165 rfl ?_
  refine E_iload_n (M := mX3_weight) 8 rfl dX3_weight_7 rfl 3 rfl ?_
  refine E_isub (M := mX3_weight) 9 rfl dX3_weight_8 ?_
  refine E_abs (M := mX3_weight) 12 rfl dX3_weight_9 jm_X3_168 (by decide) (Nat.le_of_ble_eq_true rfl) ?_
  refine E_isub (M := mX3_weight) 13 rfl dX3_weight_12 ?_
  refine E_max (M := mX3_weight) 16 rfl dX3_weight_13 jm_X3_143 (by decide) (Nat.le_of_ble_eq_true rfl) ?_
  refine E_istore (M := mX3_weight) (lv' := [(4, .int (if 0 < (10 - (if 0 ≤ ((I x1 3) - x3) then ((I x1 3) - x3) else 0 - ((I x1 3) - x3))) then (10 - (if 0 ≤ ((I x1 3) - x3) then ((I x1 3) - x3) else 0 - ((I x1 3) - x3))) else 0)), (0, .ref x0), (1, .ref x1), (2, .int x2), (3, .int x3)]) 18 rfl dX3_weight_16 (Nat.le_of_ble_eq_true rfl) rfl ?_
  refine E_iload (M := mX3_weight) 20 rfl dX3_weight_18 0 rfl ?_
  refine E_aload_n (M := mX3_weight) 21 rfl dX3_weight_20 rfl 1 rfl ?_
  refine E_aload_n (M := mX3_weight) 22 rfl dX3_weight_21 rfl 2 rfl ?_
  refine E_iload_n (M := mX3_weight) 23 rfl dX3_weight_22 rfl 3 rfl ?_
  replace h := Option.bind_eq_some_iff.mp h
  obtain ⟨v1, hv1, h⟩ := h
  refine E_cV1 (M := mX3_weight) (As := [.ref x1, .int x2]) 26 rfl dX3_weight_23 (sh_H hx0) ck_X3_157 cv_X3_loudAt rfl (by decide) (Nat.le_of_ble_eq_true rfl) (C_X3_loudAt (g := g) hx0 hx1 hv1) rfl ?_
  refine E_imul (M := mX3_weight) 27 rfl dX3_weight_26 ?_
  cases h
  exact E_iret (M := mX3_weight) rfl dX3_weight_27
theorem C_X3_weight {g : Gx} {x0 : Nat} {x1 : Nat} {x2 : Int32} {x3 : Int32} (hx0 : isH x0) (hx1 : isN x1) {I : MI} {L : ML} {res : Int32} (h : f_X3_weight x0 x1 x2 x3 I L = some res) : Ent g 7 0 mX3_weight [.ref x0, .ref x1, .int x2, .int x3] (I, L) (.inl (some (.int res))) (I, L) := Ent_of (by decide +kernel) (Nat.le_of_ble_eq_true rfl) (S_X3_weight x0 x1 x2 x3 hx0 hx1 I L _ h)
def f_X3_winter (x0 : Nat) (x1 : Nat) (x2 : Int32) (I : MI) (L : ML) : Option (Int64) := if (I x1 0) = 0 then (Option.bind (f_J6_bitCount_0f7a4 (I x1 1) I L) fun v2 => some ((100 * v2.toInt64) * x2.toInt64)) else if (I x1 0) = 1 then (some (((I x0 13).toInt64) * (x2.toInt64 * 24))) else if (I x1 0) = 2 then (some (((I x1 1).toInt64) * (x2.toInt64 * 24))) else (some 0)
set_option maxRecDepth 100000 in
theorem S_X3_winter {g : Gx} (x0 : Nat) (x1 : Nat) (x2 : Int32) (hx0 : isH x0) (hx1 : isN x1) (I : MI) (L : ML) (res : Int64) (h : f_X3_winter x0 x1 x2 I L = some res) : E g 5 0 mX3_winter 0 [(0, .ref x0), (1, .ref x1), (2, .int x2)] [] (I, L) (.inl (some (.long res))) (I, L) := by
  unfold f_X3_winter at h
  refine E_iload_n (M := mX3_winter) 1 rfl dX3_winter_0 rfl 2 rfl ?_
  refine E_i2l (M := mX3_winter) 2 rfl dX3_winter_1 ?_
  refine E_ldc2 (M := mX3_winter) 5 rfl dX3_winter_2 csl_X3_172 ?_
  refine E_lmul (M := mX3_winter) 6 rfl dX3_winter_5 ?_
  refine E_lstore_n (M := mX3_winter) (lv' := [(3, .long (x2.toInt64 * 24)), (0, .ref x0), (1, .ref x1), (2, .int x2)]) 7 rfl dX3_winter_6 rfl (Nat.le_of_ble_eq_true rfl) rfl ?_
  refine E_aload_n (M := mX3_winter) 8 rfl dX3_winter_7 rfl 2 rfl ?_
  refine E_gI (M := mX3_winter) 11 rfl dX3_winter_8 (sh_N hx1) fl_X3_174 rfl ?_
  by_cases c1 : (I x1 0) = 0
  · rw [if_pos c1] at h
    refine E_tsIn (M := mX3_winter) (off := 25) 0 c1 36 (by decide) (by decide) (by decide) rfl dX3_winter_11 ?_
    refine E_ldc2 (M := mX3_winter) 39 rfl dX3_winter_36 csl_X3_177 ?_
    refine E_aload_n (M := mX3_winter) 40 rfl dX3_winter_39 rfl 2 rfl ?_
    refine E_gI (M := mX3_winter) 43 rfl dX3_winter_40 (sh_N hx1) fl_X3_179 rfl ?_
    replace h := Option.bind_eq_some_iff.mp h
    obtain ⟨v2, hv2, h⟩ := h
    refine E_cS1 (M := mX3_winter) (As := [.int (I x1 1)]) 46 rfl dX3_winter_43 ck_X3_182 ss_J6_bitCount_0f7a4 rfl (by decide) (Nat.le_of_ble_eq_true rfl) (C_J6_bitCount_0f7a4 (g := g) hv2) rfl ?_
    refine E_i2l (M := mX3_winter) 47 rfl dX3_winter_46 ?_
    refine E_lmul (M := mX3_winter) 48 rfl dX3_winter_47 ?_
    refine E_iload_n (M := mX3_winter) 49 rfl dX3_winter_48 rfl 3 rfl ?_
    refine E_i2l (M := mX3_winter) 50 rfl dX3_winter_49 ?_
    refine E_lmul (M := mX3_winter) 51 rfl dX3_winter_50 ?_
    cases h
    exact E_lret (M := mX3_winter) rfl dX3_winter_51
  rw [if_neg c1] at h
  by_cases c3 : (I x1 0) = 1
  · rw [if_pos c3] at h
    refine E_tsIn (M := mX3_winter) (off := 41) 1 c3 52 (by decide) (by decide) (by decide) rfl dX3_winter_11 ?_
    refine E_aload_n (M := mX3_winter) 53 rfl dX3_winter_52 rfl 1 rfl ?_
    refine E_gI (M := mX3_winter) 56 rfl dX3_winter_53 (sh_H hx0) fl_X3_66 rfl ?_
    refine E_i2l (M := mX3_winter) 57 rfl dX3_winter_56 ?_
    refine E_lload_n (M := mX3_winter) 58 rfl dX3_winter_57 rfl 0 rfl ?_
    refine E_lmul (M := mX3_winter) 59 rfl dX3_winter_58 ?_
    cases h
    exact E_lret (M := mX3_winter) rfl dX3_winter_59
  rw [if_neg c3] at h
  by_cases c4 : (I x1 0) = 2
  · rw [if_pos c4] at h
    refine E_tsIn (M := mX3_winter) (off := 49) 2 c4 60 (by decide) (by decide) (by decide) rfl dX3_winter_11 ?_
    refine E_aload_n (M := mX3_winter) 61 rfl dX3_winter_60 rfl 2 rfl ?_
    refine E_gI (M := mX3_winter) 64 rfl dX3_winter_61 (sh_N hx1) fl_X3_179 rfl ?_
    refine E_i2l (M := mX3_winter) 65 rfl dX3_winter_64 ?_
    refine E_lload_n (M := mX3_winter) 66 rfl dX3_winter_65 rfl 0 rfl ?_
    refine E_lmul (M := mX3_winter) 67 rfl dX3_winter_66 ?_
    cases h
    exact E_lret (M := mX3_winter) rfl dX3_winter_67
  rw [if_neg c4] at h
  refine E_tsOut (M := mX3_winter) 3 (by decide) (fun i hi => match i, hi with | 0, _ => toI c1 (by decide) | 1, _ => toI c3 (by decide) | 2, _ => toI c4 (by decide) | (n + 3), hi => absurd hi (by omega)) 68 (by decide) dX3_winter_11 ?_
  refine E_lconst (M := mX3_winter) (v := 0) 69 rfl dX3_winter_68 (by decide) ?_
  cases h
  exact E_lret (M := mX3_winter) rfl dX3_winter_69
theorem C_X3_winter {g : Gx} {x0 : Nat} {x1 : Nat} {x2 : Int32} (hx0 : isH x0) (hx1 : isN x1) {I : MI} {L : ML} {res : Int64} (h : f_X3_winter x0 x1 x2 I L = some res) : Ent g 5 0 mX3_winter [.ref x0, .ref x1, .int x2] (I, L) (.inl (some (.long res))) (I, L) := Ent_of (by decide +kernel) (Nat.le_of_ble_eq_true rfl) (S_X3_winter x0 x1 x2 hx0 hx1 I L _ h)
def f_X3_dueFor_24 (y0 : Int64) (I : MI) (L : ML) : Option (Int64) := some y0
set_option maxRecDepth 100000 in
theorem S_X3_dueFor_24 {g : Gx} (y0 : Int64) (I : MI) (L : ML) (res : Int64) (h : f_X3_dueFor_24 y0 I L = some res) : E g 8 0 mX3_dueFor 24 [] [.long y0] (I, L) (.inl (some (.long res))) (I, L) := by
  unfold f_X3_dueFor_24 at h
  cases h
  exact E_lret (M := mX3_dueFor) rfl dX3_dueFor_24
def f_X3_dueFor (x0 : Nat) (x1 : Nat) (x2 : Int32) (I : MI) (L : ML) : Option (Int64) := Option.bind (f_X3_isHeard x0 x1 I L) fun v1 => if v1 = true then (Option.bind (f_X3_winter x0 x1 x2 I L) fun v3 => f_X3_dueFor_24 (v3 * ((I x1 5).toInt64)) I L) else (f_X3_dueFor_24 0 I L)
set_option maxRecDepth 100000 in
theorem S_X3_dueFor {g : Gx} (x0 : Nat) (x1 : Nat) (x2 : Int32) (hx0 : isH x0) (hx1 : isN x1) (I : MI) (L : ML) (res : Int64) (h : f_X3_dueFor x0 x1 x2 I L = some res) : E g 8 0 mX3_dueFor 0 [(0, .ref x0), (1, .ref x1), (2, .int x2)] [] (I, L) (.inl (some (.long res))) (I, L) := by
  unfold f_X3_dueFor at h
  refine E_aload_n (M := mX3_dueFor) 1 rfl dX3_dueFor_0 rfl 0 rfl ?_
  refine E_aload_n (M := mX3_dueFor) 2 rfl dX3_dueFor_1 rfl 1 rfl ?_
  replace h := Option.bind_eq_some_iff.mp h
  obtain ⟨v1, hv1, h⟩ := h
  refine E_cV1 (M := mX3_dueFor) (As := [.ref x1]) 5 rfl dX3_dueFor_2 (sh_H hx0) ck_X3_187 cv_X3_isHeard rfl (by decide) (Nat.le_of_ble_eq_true rfl) (C_X3_isHeard (g := g) hx0 hx1 hv1) rfl ?_
  refine E_if_eqB (M := mX3_dueFor) 23 8 (by decide) rfl dX3_dueFor_5 (fun c2 => ?_) (fun c2 => ?_)
  · rw [if_neg (by rw [c2]; decide)] at h
    refine E_lconst (M := mX3_dueFor) (v := 0) 24 rfl dX3_dueFor_23 (by decide) ?_
    refine E_sub (M := mX3_dueFor) (lv' := []) [] rfl ?_
    exact S_X3_dueFor_24 0 I L _ h
  · rw [if_pos c2] at h
    refine E_aload_n (M := mX3_dueFor) 9 rfl dX3_dueFor_8 rfl 0 rfl ?_
    refine E_aload_n (M := mX3_dueFor) 10 rfl dX3_dueFor_9 rfl 1 rfl ?_
    refine E_iload_n (M := mX3_dueFor) 11 rfl dX3_dueFor_10 rfl 2 rfl ?_
    replace h := Option.bind_eq_some_iff.mp h
    obtain ⟨v3, hv3, h⟩ := h
    refine E_cV1 (M := mX3_dueFor) (As := [.ref x1, .int x2]) 14 rfl dX3_dueFor_11 (sh_H hx0) ck_X3_191 cv_X3_winter rfl (by decide) (Nat.le_of_ble_eq_true rfl) (C_X3_winter (g := g) hx0 hx1 hv3) rfl ?_
    refine E_aload_n (M := mX3_dueFor) 15 rfl dX3_dueFor_14 rfl 1 rfl ?_
    refine E_gI (M := mX3_dueFor) 18 rfl dX3_dueFor_15 (sh_N hx1) fl_X3_195 rfl ?_
    refine E_i2l (M := mX3_dueFor) 19 rfl dX3_dueFor_18 ?_
    refine E_lmul (M := mX3_dueFor) 20 rfl dX3_dueFor_19 ?_
    refine E_goto (M := mX3_dueFor) 24 (by decide) dX3_dueFor_20 ?_
    refine E_sub (M := mX3_dueFor) (lv' := []) [] rfl ?_
    exact S_X3_dueFor_24 (v3 * ((I x1 5).toInt64)) I L _ h
theorem C_X3_dueFor {g : Gx} {x0 : Nat} {x1 : Nat} {x2 : Int32} (hx0 : isH x0) (hx1 : isN x1) {I : MI} {L : ML} {res : Int64} (h : f_X3_dueFor x0 x1 x2 I L = some res) : Ent g 8 0 mX3_dueFor [.ref x0, .ref x1, .int x2] (I, L) (.inl (some (.long res))) (I, L) := Ent_of (by decide +kernel) (Nat.le_of_ble_eq_true rfl) (S_X3_dueFor x0 x1 x2 hx0 hx1 I L _ h)
def f_X3_dueOfAll_5 : Nat → Nat → Int32 → Int64 → Int32 → MI → ML → Option (Int64)
  | 0, _, _, _, _, _, _ => none
  | n + 1, x0, x1, x2, x4, I, L => if (I x0 3) ≤ x4 then (some x2) else (Option.bind (ldR (x0 + 33) 12 x4) fun v2 => Option.bind (f_X3_dueFor x0 v2 x1 I L) fun v3 => f_X3_dueOfAll_5 n x0 x1 (x2 + v3) (x4 + 1) I L)
set_option maxRecDepth 100000 in
theorem S_X3_dueOfAll_5 {g : Gx} : ∀ (n : Nat) (x0 : Nat) (x1 : Int32) (x2 : Int64) (x4 : Int32) (hx0 : isH x0) (I : MI) (L : ML) (res : Int64), f_X3_dueOfAll_5 n x0 x1 x2 x4 I L = some res → E g 9 0 mX3_dueOfAll 5 [(0, .ref x0), (1, .int x1), (2, .long x2), (4, .int x4)] [] (I, L) (.inl (some (.long res))) (I, L) := by
  intro n
  induction n with
  | zero =>
    intros
    rename_i h
    cases h
  | succ n ih =>
    intro x0 x1 x2 x4 hx0 I L res h
    rw [f_X3_dueOfAll_5] at h
    refine E_iload (M := mX3_dueOfAll) 7 rfl dX3_dueOfAll_5 3 rfl ?_
    refine E_aload_n (M := mX3_dueOfAll) 8 rfl dX3_dueOfAll_7 rfl 0 rfl ?_
    refine E_gI (M := mX3_dueOfAll) 11 rfl dX3_dueOfAll_8 (sh_H hx0) fl_X3_21 rfl ?_
    refine E_icmp_ge (M := mX3_dueOfAll) 35 14 (by decide) rfl dX3_dueOfAll_11 (fun c1 => ?_) (fun c1 => ?_)
    · rw [if_pos c1] at h
      refine E_lload_n (M := mX3_dueOfAll) 36 rfl dX3_dueOfAll_35 rfl 2 rfl ?_
      cases h
      exact E_lret (M := mX3_dueOfAll) rfl dX3_dueOfAll_36
    · rw [if_neg c1] at h
      refine E_lload_n (M := mX3_dueOfAll) 15 rfl dX3_dueOfAll_14 rfl 2 rfl ?_
      refine E_aload_n (M := mX3_dueOfAll) 16 rfl dX3_dueOfAll_15 rfl 0 rfl ?_
      refine E_aload_n (M := mX3_dueOfAll) 17 rfl dX3_dueOfAll_16 rfl 0 rfl ?_
      refine E_gR (M := mX3_dueOfAll) (x0 + 4) 20 rfl dX3_dueOfAll_17 (sh_H hx0) fl_X3_42 rfl (rt_H7 hx0) (H_lt hx0 4 (by decide)) ?_
      refine E_iload (M := mX3_dueOfAll) 22 rfl dX3_dueOfAll_20 3 rfl ?_
      replace h := Option.bind_eq_some_iff.mp h
      obtain ⟨v2, hv2, h⟩ := h
      refine E_ldN (M := mX3_dueOfAll) hx0 23 rfl dX3_dueOfAll_22 hv2 ?_
      refine E_iload_n (M := mX3_dueOfAll) 24 rfl dX3_dueOfAll_23 rfl 1 rfl ?_
      replace h := Option.bind_eq_some_iff.mp h
      obtain ⟨v3, hv3, h⟩ := h
      refine E_cV1 (M := mX3_dueOfAll) (As := [.ref v2, .int x1]) 27 rfl dX3_dueOfAll_24 (sh_H hx0) ck_X3_198 cv_X3_dueFor rfl (by decide) (Nat.le_of_ble_eq_true rfl) (C_X3_dueFor (g := g) hx0 (isN_ld hx0 hv2) hv3) rfl ?_
      refine E_ladd (M := mX3_dueOfAll) 28 rfl dX3_dueOfAll_27 ?_
      refine E_lstore_n (M := mX3_dueOfAll) (lv' := [(2, .long (x2 + v3)), (0, .ref x0), (1, .int x1), (4, .int x4)]) 29 rfl dX3_dueOfAll_28 rfl (Nat.le_of_ble_eq_true rfl) rfl ?_
      refine E_iinc (M := mX3_dueOfAll) (j := 3) (v := x4 + 1) (lv' := [(4, .int (x4 + 1)), (2, .long (x2 + v3)), (0, .ref x0), (1, .int x1)]) 32 rfl dX3_dueOfAll_29 rfl rfl (Nat.le_of_ble_eq_true rfl) rfl ?_
      refine E_goto (M := mX3_dueOfAll) 5 (by decide) dX3_dueOfAll_32 ?_
      refine E_sub (M := mX3_dueOfAll) (lv' := [(0, .ref x0), (1, .int x1), (2, .long (x2 + v3)), (4, .int (x4 + 1))]) [2, 3, 1, 0] rfl ?_
      exact ih x0 x1 (x2 + v3) (x4 + 1) hx0 I L _ h
def f_X3_dueOfAll (x0 : Nat) (x1 : Int32) (I : MI) (L : ML) : Option (Int64) := f_X3_dueOfAll_5 FU x0 x1 0 0 I L
set_option maxRecDepth 100000 in
theorem S_X3_dueOfAll {g : Gx} (x0 : Nat) (x1 : Int32) (hx0 : isH x0) (I : MI) (L : ML) (res : Int64) (h : f_X3_dueOfAll x0 x1 I L = some res) : E g 9 0 mX3_dueOfAll 0 [(0, .ref x0), (1, .int x1)] [] (I, L) (.inl (some (.long res))) (I, L) := by
  unfold f_X3_dueOfAll at h
  refine E_lconst (M := mX3_dueOfAll) (v := 0) 1 rfl dX3_dueOfAll_0 (by decide) ?_
  refine E_lstore_n (M := mX3_dueOfAll) (lv' := [(2, .long 0), (0, .ref x0), (1, .int x1)]) 2 rfl dX3_dueOfAll_1 rfl (Nat.le_of_ble_eq_true rfl) rfl ?_
  refine E_iconst (M := mX3_dueOfAll) (v := 0) 3 rfl dX3_dueOfAll_2 (by decide) ?_
  refine E_istore (M := mX3_dueOfAll) (lv' := [(4, .int 0), (2, .long 0), (0, .ref x0), (1, .int x1)]) 5 rfl dX3_dueOfAll_3 (Nat.le_of_ble_eq_true rfl) rfl ?_
  refine E_sub (M := mX3_dueOfAll) (lv' := [(0, .ref x0), (1, .int x1), (2, .long 0), (4, .int 0)]) [2, 3, 1, 0] rfl ?_
  exact S_X3_dueOfAll_5 FU x0 x1 0 0 hx0 I L _ h
theorem C_X3_dueOfAll {g : Gx} {x0 : Nat} {x1 : Int32} (hx0 : isH x0) {I : MI} {L : ML} {res : Int64} (h : f_X3_dueOfAll x0 x1 I L = some res) : Ent g 9 0 mX3_dueOfAll [.ref x0, .int x1] (I, L) (.inl (some (.long res))) (I, L) := Ent_of (by decide +kernel) (Nat.le_of_ble_eq_true rfl) (S_X3_dueOfAll x0 x1 hx0 I L _ h)
def f_X3_hourOfDay (x0 : Nat) (I : MI) (L : ML) : Option (Int32) := some ((I x0 12) - (I x0 12) / 24 * 24)
set_option maxRecDepth 100000 in
theorem S_X3_hourOfDay {g : Gx} (x0 : Nat) (hx0 : isH x0) (I : MI) (L : ML) (res : Int32) (h : f_X3_hourOfDay x0 I L = some res) : E g 1 0 mX3_hourOfDay 0 [(0, .ref x0)] [] (I, L) (.inl (some (.int res))) (I, L) := by
  unfold f_X3_hourOfDay at h
  refine E_aload_n (M := mX3_hourOfDay) 1 rfl dX3_hourOfDay_0 rfl 0 rfl ?_
  refine E_gI (M := mX3_hourOfDay) 4 rfl dX3_hourOfDay_1 (sh_H hx0) fl_X3_63 rfl ?_
  refine E_bipush (M := mX3_hourOfDay) (v := 24) 6 rfl dX3_hourOfDay_4 (by decide) ?_
  refine E_irem (M := mX3_hourOfDay) 7 rfl dX3_hourOfDay_6 (by decide) ?_
  cases h
  exact E_iret (M := mX3_hourOfDay) rfl dX3_hourOfDay_7
theorem C_X3_hourOfDay {g : Gx} {x0 : Nat} (hx0 : isH x0) {I : MI} {L : ML} {res : Int32} (h : f_X3_hourOfDay x0 I L = some res) : Ent g 1 0 mX3_hourOfDay [.ref x0] (I, L) (.inl (some (.int res))) (I, L) := Ent_of (by decide +kernel) (Nat.le_of_ble_eq_true rfl) (S_X3_hourOfDay x0 hx0 I L _ h)
def f_X3_draw (x0 : Nat) (I : MI) (L : ML) : Option (Int32 × MI × ML) := Option.bind (pfI I x0 18 ((1103515245 * (I x0 18)) + 12345)) fun I1 => some (((I1 x0 18) >>> (16 &&& 31)) &&& 32767, I1, L)
set_option maxRecDepth 100000 in
theorem S_X3_draw {g : Gx} (x0 : Nat) (hx0 : isH x0) (I : MI) (L : ML) (res : Int32 × MI × ML) (h : f_X3_draw x0 I L = some res) : E g 1 0 mX3_draw 0 [(0, .ref x0)] [] (I, L) (.inl (some (.int res.1))) (res.2.1, res.2.2) := by
  unfold f_X3_draw at h
  refine E_aload_n (M := mX3_draw) 1 rfl dX3_draw_0 rfl 0 rfl ?_
  refine E_ldc (M := mX3_draw) 3 rfl dX3_draw_1 cst_X3_201 ?_
  refine E_aload_n (M := mX3_draw) 4 rfl dX3_draw_3 rfl 0 rfl ?_
  refine E_gI (M := mX3_draw) 7 rfl dX3_draw_4 (sh_H hx0) fl_X3_82 rfl ?_
  refine E_imul (M := mX3_draw) 8 rfl dX3_draw_7 ?_
  refine E_sipush (M := mX3_draw) (v := 12345) 11 rfl dX3_draw_8 (by decide) ?_
  refine E_iadd (M := mX3_draw) 12 rfl dX3_draw_11 ?_
  replace h := Option.bind_eq_some_iff.mp h
  obtain ⟨I1, hI1, h⟩ := h
  refine E_pfI (M := mX3_draw) 15 rfl dX3_draw_12 (sh_H hx0) fl_X3_82 rfl hI1 ?_
  refine E_aload_n (M := mX3_draw) 16 rfl dX3_draw_15 rfl 0 rfl ?_
  refine E_gI (M := mX3_draw) 19 rfl dX3_draw_16 (sh_H hx0) fl_X3_82 rfl ?_
  refine E_bipush (M := mX3_draw) (v := 16) 21 rfl dX3_draw_19 (by decide) ?_
  refine E_ishr (M := mX3_draw) 22 rfl dX3_draw_21 ?_
  refine E_sipush (M := mX3_draw) (v := 32767) 25 rfl dX3_draw_22 (by decide) ?_
  refine E_iand (M := mX3_draw) 26 rfl dX3_draw_25 ?_
  cases h
  exact E_iret (M := mX3_draw) rfl dX3_draw_26
theorem C_X3_draw {g : Gx} {x0 : Nat} (hx0 : isH x0) {I : MI} {L : ML} {res : Int32 × MI × ML} (h : f_X3_draw x0 I L = some res) : Ent g 1 0 mX3_draw [.ref x0] (I, L) (.inl (some (.int res.1))) (res.2.1, res.2.2) := Ent_of (by decide +kernel) (Nat.le_of_ble_eq_true rfl) (S_X3_draw x0 hx0 I L _ h)
def f_X3_soundsNow_76 (y0 : Bool) (I : MI) (L : ML) : Option (Bool × MI × ML) := some (y0, I, L)
set_option maxRecDepth 100000 in
theorem S_X3_soundsNow_76 {g : Gx} (y0 : Bool) (I : MI) (L : ML) (res : Bool × MI × ML) (h : f_X3_soundsNow_76 y0 I L = some res) : E g 2 0 mX3_soundsNow 76 [] [.int (bI y0)] (I, L) (.inl (some (.int (bI res.1)))) (res.2.1, res.2.2) := by
  unfold f_X3_soundsNow_76 at h
  cases h
  exact E_zret (M := mX3_soundsNow) (x := y0) rfl dX3_soundsNow_76
def f_X3_soundsNow_51 (y0 : Bool) (I : MI) (L : ML) : Option (Bool × MI × ML) := some (y0, I, L)
set_option maxRecDepth 100000 in
theorem S_X3_soundsNow_51 {g : Gx} (y0 : Bool) (I : MI) (L : ML) (res : Bool × MI × ML) (h : f_X3_soundsNow_51 y0 I L = some res) : E g 2 0 mX3_soundsNow 51 [] [.int (bI y0)] (I, L) (.inl (some (.int (bI res.1)))) (res.2.1, res.2.2) := by
  unfold f_X3_soundsNow_51 at h
  cases h
  exact E_zret (M := mX3_soundsNow) (x := y0) rfl dX3_soundsNow_51
def f_X3_soundsNow (x0 : Nat) (x1 : Nat) (I : MI) (L : ML) : Option (Bool × MI × ML) := if (I x1 0) = 0 then (Option.bind (f_X3_hourOfDay x0 I L) fun v2 => if (((I x1 1) >>> (v2 &&& 31)) &&& 1) = 0 then (f_X3_soundsNow_51 false I L) else (f_X3_soundsNow_51 true I L)) else if (I x1 0) = 1 then (some (I x0 14 != 0, I, L)) else if (I x1 0) = 2 then (Option.bind (f_X3_draw x0 I L) fun w6 => if (w6.2.1 x1 1) ≤ (w6.1 - w6.1 / 100 * 100) then (f_X3_soundsNow_76 false w6.2.1 w6.2.2) else (f_X3_soundsNow_76 true w6.2.1 w6.2.2)) else (Option.bind (pfI I x1 9 (bI false)) fun I9 => some (I x1 9 != 0, I9, L))
set_option maxRecDepth 100000 in
theorem S_X3_soundsNow {g : Gx} (x0 : Nat) (x1 : Nat) (hx0 : isH x0) (hx1 : isN x1) (I : MI) (L : ML) (res : Bool × MI × ML) (h : f_X3_soundsNow x0 x1 I L = some res) : E g 2 0 mX3_soundsNow 0 [(0, .ref x0), (1, .ref x1)] [] (I, L) (.inl (some (.int (bI res.1)))) (res.2.1, res.2.2) := by
  unfold f_X3_soundsNow at h
  refine E_aload_n (M := mX3_soundsNow) 1 rfl dX3_soundsNow_0 rfl 1 rfl ?_
  refine E_gI (M := mX3_soundsNow) 4 rfl dX3_soundsNow_1 (sh_N hx1) fl_X3_174 rfl ?_
  by_cases c1 : (I x1 0) = 0
  · rw [if_pos c1] at h
    refine E_tsIn (M := mX3_soundsNow) (off := 28) 0 c1 32 (by decide) (by decide) (by decide) rfl dX3_soundsNow_4 ?_
    refine E_aload_n (M := mX3_soundsNow) 33 rfl dX3_soundsNow_32 rfl 1 rfl ?_
    refine E_gI (M := mX3_soundsNow) 36 rfl dX3_soundsNow_33 (sh_N hx1) fl_X3_179 rfl ?_
    refine E_aload_n (M := mX3_soundsNow) 37 rfl dX3_soundsNow_36 rfl 0 rfl ?_
    replace h := Option.bind_eq_some_iff.mp h
    obtain ⟨v2, hv2, h⟩ := h
    refine E_cV1 (M := mX3_soundsNow) (As := []) 40 rfl dX3_soundsNow_37 (sh_H hx0) ck_X3_202 cv_X3_hourOfDay rfl (by decide) (Nat.le_of_ble_eq_true rfl) (C_X3_hourOfDay (g := g) hx0 hv2) rfl ?_
    refine E_ishr (M := mX3_soundsNow) 41 rfl dX3_soundsNow_40 ?_
    refine E_iconst (M := mX3_soundsNow) (v := 1) 42 rfl dX3_soundsNow_41 (by decide) ?_
    refine E_iand (M := mX3_soundsNow) 43 rfl dX3_soundsNow_42 ?_
    refine E_if_eq (M := mX3_soundsNow) 50 46 (by decide) rfl dX3_soundsNow_43 (fun c3 => ?_) (fun c3 => ?_)
    · rw [if_pos c3] at h
      refine E_iconst (M := mX3_soundsNow) (v := 0) 51 rfl dX3_soundsNow_50 (by decide) ?_
      refine E_sub (M := mX3_soundsNow) (lv' := []) [] rfl ?_
      exact S_X3_soundsNow_51 false I L _ h
    · rw [if_neg c3] at h
      refine E_iconst (M := mX3_soundsNow) (v := 1) 47 rfl dX3_soundsNow_46 (by decide) ?_
      refine E_goto (M := mX3_soundsNow) 51 (by decide) dX3_soundsNow_47 ?_
      refine E_sub (M := mX3_soundsNow) (lv' := []) [] rfl ?_
      exact S_X3_soundsNow_51 true I L _ h
  rw [if_neg c1] at h
  by_cases c4 : (I x1 0) = 1
  · rw [if_pos c4] at h
    refine E_tsIn (M := mX3_soundsNow) (off := 48) 1 c4 52 (by decide) (by decide) (by decide) rfl dX3_soundsNow_4 ?_
    refine E_aload_n (M := mX3_soundsNow) 53 rfl dX3_soundsNow_52 rfl 0 rfl ?_
    refine E_gB (M := mX3_soundsNow) 56 rfl dX3_soundsNow_53 (sh_H hx0) fl_X3_69 rfl ?_
    cases h
    exact E_zret (M := mX3_soundsNow) (x := I x0 14 != 0) rfl dX3_soundsNow_56
  rw [if_neg c4] at h
  by_cases c5 : (I x1 0) = 2
  · rw [if_pos c5] at h
    refine E_tsIn (M := mX3_soundsNow) (off := 53) 2 c5 57 (by decide) (by decide) (by decide) rfl dX3_soundsNow_4 ?_
    refine E_aload_n (M := mX3_soundsNow) 58 rfl dX3_soundsNow_57 rfl 0 rfl ?_
    replace h := Option.bind_eq_some_iff.mp h
    obtain ⟨w6, hw6, h⟩ := h
    refine E_cV1 (M := mX3_soundsNow) (As := []) 61 rfl dX3_soundsNow_58 (sh_H hx0) ck_X3_206 cv_X3_draw rfl (by decide) (Nat.le_of_ble_eq_true rfl) (C_X3_draw (g := g) hx0 hw6) rfl ?_
    refine E_bipush (M := mX3_soundsNow) (v := 100) 63 rfl dX3_soundsNow_61 (by decide) ?_
    refine E_irem (M := mX3_soundsNow) 64 rfl dX3_soundsNow_63 (by decide) ?_
    refine E_aload_n (M := mX3_soundsNow) 65 rfl dX3_soundsNow_64 rfl 1 rfl ?_
    refine E_gI (M := mX3_soundsNow) 68 rfl dX3_soundsNow_65 (sh_N hx1) fl_X3_179 rfl ?_
    refine E_icmp_ge (M := mX3_soundsNow) 75 71 (by decide) rfl dX3_soundsNow_68 (fun c8 => ?_) (fun c8 => ?_)
    · rw [if_pos c8] at h
      refine E_iconst (M := mX3_soundsNow) (v := 0) 76 rfl dX3_soundsNow_75 (by decide) ?_
      refine E_sub (M := mX3_soundsNow) (lv' := []) [] rfl ?_
      exact S_X3_soundsNow_76 false w6.2.1 w6.2.2 _ h
    · rw [if_neg c8] at h
      refine E_iconst (M := mX3_soundsNow) (v := 1) 72 rfl dX3_soundsNow_71 (by decide) ?_
      refine E_goto (M := mX3_soundsNow) 76 (by decide) dX3_soundsNow_72 ?_
      refine E_sub (M := mX3_soundsNow) (lv' := []) [] rfl ?_
      exact S_X3_soundsNow_76 true w6.2.1 w6.2.2 _ h
  rw [if_neg c5] at h
  refine E_tsOut (M := mX3_soundsNow) 3 (by decide) (fun i hi => match i, hi with | 0, _ => toI c1 (by decide) | 1, _ => toI c4 (by decide) | 2, _ => toI c5 (by decide) | (n + 3), hi => absurd hi (by omega)) 77 (by decide) dX3_soundsNow_4 ?_
  refine E_aload_n (M := mX3_soundsNow) 78 rfl dX3_soundsNow_77 rfl 1 rfl ?_
  refine E_gB (M := mX3_soundsNow) 81 rfl dX3_soundsNow_78 (sh_N hx1) fl_X3_209 rfl ?_
  refine E_istore_n (M := mX3_soundsNow) (lv' := [(2, .int (bI (I x1 9 != 0))), (0, .ref x0), (1, .ref x1)]) 82 rfl dX3_soundsNow_81 rfl (Nat.le_of_ble_eq_true rfl) rfl ?_
  refine E_aload_n (M := mX3_soundsNow) 83 rfl dX3_soundsNow_82 rfl 2 rfl ?_
  refine E_iconst (M := mX3_soundsNow) (v := 0) 84 rfl dX3_soundsNow_83 (by decide) ?_
  replace h := Option.bind_eq_some_iff.mp h
  obtain ⟨I9, hI9, h⟩ := h
  refine E_pfB (M := mX3_soundsNow) (x := false) 87 rfl dX3_soundsNow_84 (sh_N hx1) fl_X3_209 rfl hI9 ?_
  refine E_iload_n (M := mX3_soundsNow) 88 rfl dX3_soundsNow_87 rfl 0 rfl ?_
  cases h
  exact E_zret (M := mX3_soundsNow) (x := I x1 9 != 0) rfl dX3_soundsNow_88
theorem C_X3_soundsNow {g : Gx} {x0 : Nat} {x1 : Nat} (hx0 : isH x0) (hx1 : isN x1) {I : MI} {L : ML} {res : Bool × MI × ML} (h : f_X3_soundsNow x0 x1 I L = some res) : Ent g 2 0 mX3_soundsNow [.ref x0, .ref x1] (I, L) (.inl (some (.int (bI res.1)))) (res.2.1, res.2.2) := Ent_of (by decide +kernel) (Nat.le_of_ble_eq_true rfl) (S_X3_soundsNow x0 x1 hx0 hx1 I L _ h)
def f_X3_slotOf (x0 : Int32) (I : MI) (L : ML) : Option (Int32) := Option.bind (f_J9_floorMod_7cf53 x0 40 I L) fun v1 => some v1
set_option maxRecDepth 100000 in
theorem S_X3_slotOf {g : Gx} (x0 : Int32) (I : MI) (L : ML) (res : Int32) (h : f_X3_slotOf x0 I L = some res) : E g 2 0 mX3_slotOf 0 [(0, .int x0)] [] (I, L) (.inl (some (.int res))) (I, L) := by
  unfold f_X3_slotOf at h
  refine E_iload_n (M := mX3_slotOf) 1 rfl dX3_slotOf_0 rfl 0 rfl ?_
  refine E_bipush (M := mX3_slotOf) (v := 40) 3 rfl dX3_slotOf_1 (by decide) ?_
  replace h := Option.bind_eq_some_iff.mp h
  obtain ⟨v1, hv1, h⟩ := h
  refine E_cS1 (M := mX3_slotOf) (As := [.int x0, .int 40]) 6 rfl dX3_slotOf_3 ck_X3_215 ss_J9_floorMod_7cf53 rfl (by decide) (Nat.le_of_ble_eq_true rfl) (C_J9_floorMod_7cf53 (g := g) hv1) rfl ?_
  cases h
  exact E_iret (M := mX3_slotOf) rfl dX3_slotOf_6
theorem C_X3_slotOf {g : Gx} {x0 : Int32} {I : MI} {L : ML} {res : Int32} (h : f_X3_slotOf x0 I L = some res) : Ent g 2 0 mX3_slotOf [.int x0] (I, L) (.inl (some (.int res))) (I, L) := Ent_of (by decide +kernel) (Nat.le_of_ble_eq_true rfl) (S_X3_slotOf x0 I L _ h)
def f_X3_rememberSeats_4 : Nat → Nat → Int64 → Int32 → MI → ML → Option (MI × ML)
  | 0, _, _, _, _, _ => none
  | n + 1, x0, x1, x3, I, L => if (I x0 2) ≤ x3 then (Option.bind (f_X3_slotOf (I x0 12) I L) fun v2 => Option.bind (stL L (x0 + 12) 40 v2 x1) fun L3 => some (I, L3)) else (Option.bind (ldR (x0 + 27) 6 x3) fun v4 => f_X3_rememberSeats_4 n x0 (x1 ||| (1 <<< ((((I v4 0) * 6) + x3).toInt64 &&& 63))) (x3 + 1) I L)
set_option maxRecDepth 100000 in
theorem S_X3_rememberSeats_4 {g : Gx} : ∀ (n : Nat) (x0 : Nat) (x1 : Int64) (x3 : Int32) (hx0 : isH x0) (I : MI) (L : ML) (res : MI × ML), f_X3_rememberSeats_4 n x0 x1 x3 I L = some res → E g 3 0 mX3_rememberSeats 4 [(0, .ref x0), (1, .long x1), (3, .int x3)] [] (I, L) (.inl none) (res.1, res.2) := by
  intro n
  induction n with
  | zero =>
    intros
    rename_i h
    cases h
  | succ n ih =>
    intro x0 x1 x3 hx0 I L res h
    rw [f_X3_rememberSeats_4] at h
    refine E_iload_n (M := mX3_rememberSeats) 5 rfl dX3_rememberSeats_4 rfl 2 rfl ?_
    refine E_aload_n (M := mX3_rememberSeats) 6 rfl dX3_rememberSeats_5 rfl 0 rfl ?_
    refine E_gI (M := mX3_rememberSeats) 9 rfl dX3_rememberSeats_6 (sh_H hx0) fl_X3_18 rfl ?_
    refine E_icmp_ge (M := mX3_rememberSeats) 37 12 (by decide) rfl dX3_rememberSeats_9 (fun c1 => ?_) (fun c1 => ?_)
    · rw [if_pos c1] at h
      refine E_aload_n (M := mX3_rememberSeats) 38 rfl dX3_rememberSeats_37 rfl 0 rfl ?_
      refine E_gR (M := mX3_rememberSeats) (x0 + 12) 41 rfl dX3_rememberSeats_38 (sh_H hx0) fl_X3_56 rfl (rt_H10 hx0) (H_lt hx0 12 (by decide)) ?_
      refine E_aload_n (M := mX3_rememberSeats) 42 rfl dX3_rememberSeats_41 rfl 0 rfl ?_
      refine E_gI (M := mX3_rememberSeats) 45 rfl dX3_rememberSeats_42 (sh_H hx0) fl_X3_63 rfl ?_
      replace h := Option.bind_eq_some_iff.mp h
      obtain ⟨v2, hv2, h⟩ := h
      refine E_cS1 (M := mX3_rememberSeats) (As := [.int (I x0 12)]) 48 rfl dX3_rememberSeats_45 ck_X3_212 ss_X3_slotOf rfl (by decide) (Nat.le_of_ble_eq_true rfl) (C_X3_slotOf (g := g) hv2) rfl ?_
      refine E_lload_n (M := mX3_rememberSeats) 49 rfl dX3_rememberSeats_48 rfl 1 rfl ?_
      replace h := Option.bind_eq_some_iff.mp h
      obtain ⟨L3, hL3, h⟩ := h
      refine E_stL (M := mX3_rememberSeats) 50 rfl dX3_rememberSeats_49 (sh_H12 hx0) hL3 ?_
      cases h
      exact E_vret (M := mX3_rememberSeats) rfl dX3_rememberSeats_50
    · rw [if_neg c1] at h
      refine E_lload_n (M := mX3_rememberSeats) 13 rfl dX3_rememberSeats_12 rfl 1 rfl ?_
      refine E_lconst (M := mX3_rememberSeats) (v := 1) 14 rfl dX3_rememberSeats_13 (by decide) ?_
      refine E_aload_n (M := mX3_rememberSeats) 15 rfl dX3_rememberSeats_14 rfl 0 rfl ?_
      refine E_gR (M := mX3_rememberSeats) (x0 + 3) 18 rfl dX3_rememberSeats_15 (sh_H hx0) fl_X3_36 rfl (rt_H6 hx0) (H_lt hx0 3 (by decide)) ?_
      refine E_iload_n (M := mX3_rememberSeats) 19 rfl dX3_rememberSeats_18 rfl 2 rfl ?_
      replace h := Option.bind_eq_some_iff.mp h
      obtain ⟨v4, hv4, h⟩ := h
      refine E_ldE (M := mX3_rememberSeats) hx0 20 rfl dX3_rememberSeats_19 hv4 ?_
      refine E_gI (M := mX3_rememberSeats) 23 rfl dX3_rememberSeats_20 (sh_E (isE_ld hx0 hv4)) fl_X3_116 rfl ?_
      refine E_bipush (M := mX3_rememberSeats) (v := 6) 25 rfl dX3_rememberSeats_23 (by decide) ?_
      refine E_imul (M := mX3_rememberSeats) 26 rfl dX3_rememberSeats_25 ?_
      refine E_iload_n (M := mX3_rememberSeats) 27 rfl dX3_rememberSeats_26 rfl 2 rfl ?_
      refine E_iadd (M := mX3_rememberSeats) 28 rfl dX3_rememberSeats_27 ?_
      refine E_lshl (M := mX3_rememberSeats) 29 rfl dX3_rememberSeats_28 ?_
      refine E_lor (M := mX3_rememberSeats) 30 rfl dX3_rememberSeats_29 ?_
      refine E_lstore_n (M := mX3_rememberSeats) (lv' := [(1, .long (x1 ||| (1 <<< ((((I v4 0) * 6) + x3).toInt64 &&& 63)))), (0, .ref x0), (3, .int x3)]) 31 rfl dX3_rememberSeats_30 rfl (Nat.le_of_ble_eq_true rfl) rfl ?_
      refine E_iinc (M := mX3_rememberSeats) (j := 2) (v := x3 + 1) (lv' := [(3, .int (x3 + 1)), (1, .long (x1 ||| (1 <<< ((((I v4 0) * 6) + x3).toInt64 &&& 63)))), (0, .ref x0)]) 34 rfl dX3_rememberSeats_31 rfl rfl (Nat.le_of_ble_eq_true rfl) rfl ?_
      refine E_goto (M := mX3_rememberSeats) 4 (by decide) dX3_rememberSeats_34 ?_
      refine E_sub (M := mX3_rememberSeats) (lv' := [(0, .ref x0), (1, .long (x1 ||| (1 <<< ((((I v4 0) * 6) + x3).toInt64 &&& 63)))), (3, .int (x3 + 1))]) [2, 1, 0] rfl ?_
      exact ih x0 (x1 ||| (1 <<< ((((I v4 0) * 6) + x3).toInt64 &&& 63))) (x3 + 1) hx0 I L _ h
def f_X3_rememberSeats (x0 : Nat) (I : MI) (L : ML) : Option (MI × ML) := f_X3_rememberSeats_4 FU x0 0 0 I L
set_option maxRecDepth 100000 in
theorem S_X3_rememberSeats {g : Gx} (x0 : Nat) (hx0 : isH x0) (I : MI) (L : ML) (res : MI × ML) (h : f_X3_rememberSeats x0 I L = some res) : E g 3 0 mX3_rememberSeats 0 [(0, .ref x0)] [] (I, L) (.inl none) (res.1, res.2) := by
  unfold f_X3_rememberSeats at h
  refine E_lconst (M := mX3_rememberSeats) (v := 0) 1 rfl dX3_rememberSeats_0 (by decide) ?_
  refine E_lstore_n (M := mX3_rememberSeats) (lv' := [(1, .long 0), (0, .ref x0)]) 2 rfl dX3_rememberSeats_1 rfl (Nat.le_of_ble_eq_true rfl) rfl ?_
  refine E_iconst (M := mX3_rememberSeats) (v := 0) 3 rfl dX3_rememberSeats_2 (by decide) ?_
  refine E_istore_n (M := mX3_rememberSeats) (lv' := [(3, .int 0), (1, .long 0), (0, .ref x0)]) 4 rfl dX3_rememberSeats_3 rfl (Nat.le_of_ble_eq_true rfl) rfl ?_
  refine E_sub (M := mX3_rememberSeats) (lv' := [(0, .ref x0), (1, .long 0), (3, .int 0)]) [2, 1, 0] rfl ?_
  exact S_X3_rememberSeats_4 FU x0 0 0 hx0 I L _ h
theorem C_X3_rememberSeats {g : Gx} {x0 : Nat} (hx0 : isH x0) {I : MI} {L : ML} {res : MI × ML} (h : f_X3_rememberSeats x0 I L = some res) : Ent g 3 0 mX3_rememberSeats [.ref x0] (I, L) (.inl none) (res.1, res.2) := Ent_of (by decide +kernel) (Nat.le_of_ble_eq_true rfl) (S_X3_rememberSeats x0 hx0 I L _ h)
def f_X3_satSince_15 : Nat → Nat → Int32 → Int64 → Int32 → MI → ML → Option (Int32)
  | 0, _, _, _, _, _, _ => none
  | n + 1, x0, x2, x3, x5, I, L => if (I x0 12) ≤ x5 then (some (((x3 >>> ((x2 * 6).toInt64 &&& 63)).toInt32) &&& 63)) else (Option.bind (f_X3_slotOf x5 I L) fun v2 => Option.bind (ldL L (x0 + 12) 40 v2) fun v3 => f_X3_satSince_15 n x0 x2 (x3 ||| v3) (x5 + 1) I L)
set_option maxRecDepth 100000 in
theorem S_X3_satSince_15 {g : Gx} : ∀ (n : Nat) (x0 : Nat) (x2 : Int32) (x3 : Int64) (x5 : Int32) (hx0 : isH x0) (I : MI) (L : ML) (res : Int32), f_X3_satSince_15 n x0 x2 x3 x5 I L = some res → E g 5 0 mX3_satSince 15 [(0, .ref x0), (2, .int x2), (3, .long x3), (5, .int x5)] [] (I, L) (.inl (some (.int res))) (I, L) := by
  intro n
  induction n with
  | zero =>
    intros
    rename_i h
    cases h
  | succ n ih =>
    intro x0 x2 x3 x5 hx0 I L res h
    rw [f_X3_satSince_15] at h
    refine E_iload (M := mX3_satSince) 17 rfl dX3_satSince_15 3 rfl ?_
    refine E_aload_n (M := mX3_satSince) 18 rfl dX3_satSince_17 rfl 0 rfl ?_
    refine E_gI (M := mX3_satSince) 21 rfl dX3_satSince_18 (sh_H hx0) fl_X3_63 rfl ?_
    refine E_icmp_ge (M := mX3_satSince) 43 24 (by decide) rfl dX3_satSince_21 (fun c1 => ?_) (fun c1 => ?_)
    · rw [if_pos c1] at h
      refine E_lload_n (M := mX3_satSince) 44 rfl dX3_satSince_43 rfl 2 rfl ?_
      refine E_iload_n (M := mX3_satSince) 45 rfl dX3_satSince_44 rfl 1 rfl ?_
      refine E_bipush (M := mX3_satSince) (v := 6) 47 rfl dX3_satSince_45 (by decide) ?_
      refine E_imul (M := mX3_satSince) 48 rfl dX3_satSince_47 ?_
      refine E_lshr (M := mX3_satSince) 49 rfl dX3_satSince_48 ?_
      refine E_l2i (M := mX3_satSince) 50 rfl dX3_satSince_49 ?_
      refine E_bipush (M := mX3_satSince) (v := 63) 52 rfl dX3_satSince_50 (by decide) ?_
      refine E_iand (M := mX3_satSince) 53 rfl dX3_satSince_52 ?_
      cases h
      exact E_iret (M := mX3_satSince) rfl dX3_satSince_53
    · rw [if_neg c1] at h
      refine E_lload_n (M := mX3_satSince) 25 rfl dX3_satSince_24 rfl 2 rfl ?_
      refine E_aload_n (M := mX3_satSince) 26 rfl dX3_satSince_25 rfl 0 rfl ?_
      refine E_gR (M := mX3_satSince) (x0 + 12) 29 rfl dX3_satSince_26 (sh_H hx0) fl_X3_56 rfl (rt_H10 hx0) (H_lt hx0 12 (by decide)) ?_
      refine E_iload (M := mX3_satSince) 31 rfl dX3_satSince_29 3 rfl ?_
      replace h := Option.bind_eq_some_iff.mp h
      obtain ⟨v2, hv2, h⟩ := h
      refine E_cS1 (M := mX3_satSince) (As := [.int x5]) 34 rfl dX3_satSince_31 ck_X3_212 ss_X3_slotOf rfl (by decide) (Nat.le_of_ble_eq_true rfl) (C_X3_slotOf (g := g) hv2) rfl ?_
      replace h := Option.bind_eq_some_iff.mp h
      obtain ⟨v3, hv3, h⟩ := h
      refine E_ldL (M := mX3_satSince) 35 rfl dX3_satSince_34 (sh_H12 hx0) hv3 ?_
      refine E_lor (M := mX3_satSince) 36 rfl dX3_satSince_35 ?_
      refine E_lstore_n (M := mX3_satSince) (lv' := [(3, .long (x3 ||| v3)), (0, .ref x0), (2, .int x2), (5, .int x5)]) 37 rfl dX3_satSince_36 rfl (Nat.le_of_ble_eq_true rfl) rfl ?_
      refine E_iinc (M := mX3_satSince) (j := 3) (v := x5 + 1) (lv' := [(5, .int (x5 + 1)), (3, .long (x3 ||| v3)), (0, .ref x0), (2, .int x2)]) 40 rfl dX3_satSince_37 rfl rfl (Nat.le_of_ble_eq_true rfl) rfl ?_
      refine E_goto (M := mX3_satSince) 15 (by decide) dX3_satSince_40 ?_
      refine E_sub (M := mX3_satSince) (lv' := [(0, .ref x0), (2, .int x2), (3, .long (x3 ||| v3)), (5, .int (x5 + 1))]) [2, 3, 1, 0] rfl ?_
      exact ih x0 x2 (x3 ||| v3) (x5 + 1) hx0 I L _ h
def f_X3_satSince (x0 : Nat) (x1 : Int32) (x2 : Int32) (I : MI) (L : ML) : Option (Int32) := f_X3_satSince_15 FU x0 x2 0 (if x1 < ((I x0 12) - 40) then ((I x0 12) - 40) else x1) I L
set_option maxRecDepth 100000 in
theorem S_X3_satSince {g : Gx} (x0 : Nat) (x1 : Int32) (x2 : Int32) (hx0 : isH x0) (I : MI) (L : ML) (res : Int32) (h : f_X3_satSince x0 x1 x2 I L = some res) : E g 5 0 mX3_satSince 0 [(0, .ref x0), (1, .int x1), (2, .int x2)] [] (I, L) (.inl (some (.int res))) (I, L) := by
  unfold f_X3_satSince at h
  refine E_lconst (M := mX3_satSince) (v := 0) 1 rfl dX3_satSince_0 (by decide) ?_
  refine E_lstore_n (M := mX3_satSince) (lv' := [(3, .long 0), (0, .ref x0), (1, .int x1), (2, .int x2)]) 2 rfl dX3_satSince_1 rfl (Nat.le_of_ble_eq_true rfl) rfl ?_
  refine E_iload_n (M := mX3_satSince) 3 rfl dX3_satSince_2 rfl 2 rfl ?_
  refine E_aload_n (M := mX3_satSince) 4 rfl dX3_satSince_3 rfl 1 rfl ?_
  refine E_gI (M := mX3_satSince) 7 rfl dX3_satSince_4 (sh_H hx0) fl_X3_63 rfl ?_
  refine E_bipush (M := mX3_satSince) (v := 40) 9 rfl dX3_satSince_7 (by decide) ?_
  refine E_isub (M := mX3_satSince) 10 rfl dX3_satSince_9 ?_
  refine E_max (M := mX3_satSince) 13 rfl dX3_satSince_10 jm_X3_143 (by decide) (Nat.le_of_ble_eq_true rfl) ?_
  refine E_istore (M := mX3_satSince) (lv' := [(5, .int (if x1 < ((I x0 12) - 40) then ((I x0 12) - 40) else x1)), (3, .long 0), (0, .ref x0), (1, .int x1), (2, .int x2)]) 15 rfl dX3_satSince_13 (Nat.le_of_ble_eq_true rfl) rfl ?_
  refine E_sub (M := mX3_satSince) (lv' := [(0, .ref x0), (2, .int x2), (3, .long 0), (5, .int (if x1 < ((I x0 12) - 40) then ((I x0 12) - 40) else x1))]) [2, 4, 1, 0] rfl ?_
  exact S_X3_satSince_15 FU x0 x2 0 (if x1 < ((I x0 12) - 40) then ((I x0 12) - 40) else x1) hx0 I L _ h
theorem C_X3_satSince {g : Gx} {x0 : Nat} {x1 : Int32} {x2 : Int32} (hx0 : isH x0) {I : MI} {L : ML} {res : Int32} (h : f_X3_satSince x0 x1 x2 I L = some res) : Ent g 5 0 mX3_satSince [.ref x0, .int x1, .int x2] (I, L) (.inl (some (.int res))) (I, L) := Ent_of (by decide +kernel) (Nat.le_of_ble_eq_true rfl) (S_X3_satSince x0 x1 x2 hx0 I L _ h)
