def f_X12_ghost_238 (y0 : Int32) (I : MI) (L : ML) : Option (Int32 × MI × ML) := some (y0, I, L)
set_option maxRecDepth 100000 in
theorem S_X12_ghost_238 {g : Gx} (y0 : Int32) (I : MI) (L : ML) (res : Int32 × MI × ML) (h : f_X12_ghost_238 y0 I L = some res) : E g 6 0 mX12_ghost 238 [] [.int y0] (I, L) (.inl (some (.int res.1))) (res.2.1, res.2.2) := by
  unfold f_X12_ghost_238 at h
  cases h
  exact E_iret rfl dX12_ghost_238
def f_X12_ghost_216 (k168 : Int32 → Int32 → Int32 → Int32 → Int32 → MI → ML → Option (Int32 × MI × ML)) (x1 : Int32) (x3 : Int32) (x4 : Int32) (x5 : Int32) (x6 : Int32) (I : MI) (L : ML) : Option (Int32 × MI × ML) := k168 x1 x3 x4 x5 (x6 + 1) I L
set_option maxRecDepth 100000 in
theorem S_X12_ghost_216 {g : Gx} {k168 : Int32 → Int32 → Int32 → Int32 → Int32 → MI → ML → Option (Int32 × MI × ML)} (hk168 : ∀ (x1z : Int32) (x3z : Int32) (x4z : Int32) (x5z : Int32) (x6z : Int32) (I : MI) (L : ML) (res : Int32 × MI × ML), k168 x1z x3z x4z x5z x6z I L = some res → E g 6 0 mX12_ghost 168 [(0, .ref 149), (1, .int x1z), (3, .int x3z), (4, .int x4z), (5, .int x5z), (6, .int x6z)] [] (I, L) (.inl (some (.int res.1))) (res.2.1, res.2.2)) (x1 : Int32) (x3 : Int32) (x4 : Int32) (x5 : Int32) (x6 : Int32) (I : MI) (L : ML) (res : Int32 × MI × ML) (h : f_X12_ghost_216 k168 x1 x3 x4 x5 x6 I L = some res) : E g 6 0 mX12_ghost 216 [(0, .ref 149), (1, .int x1), (3, .int x3), (4, .int x4), (5, .int x5), (6, .int x6)] [] (I, L) (.inl (some (.int res.1))) (res.2.1, res.2.2) := by
  unfold f_X12_ghost_216 at h
  refine E_iinc (j := 5) (v := x6 + 1) (lv' := [(6, .int (x6 + 1)), (0, .ref 149), (1, .int x1), (3, .int x3), (4, .int x4), (5, .int x5)]) 219 rfl dX12_ghost_216 rfl rfl (Nat.le_of_ble_eq_true rfl) rfl ?_
  refine E_goto 168 (by decide) dX12_ghost_219 ?_
  refine E_sub (lv' := [(0, .ref 149), (1, .int x1), (3, .int x3), (4, .int x4), (5, .int x5), (6, .int (x6 + 1))]) [1, 2, 3, 4, 5, 0] rfl ?_
  exact hk168 x1 x3 x4 x5 (x6 + 1) I L _ h
def f_X12_ghost_211 (k168 : Int32 → Int32 → Int32 → Int32 → Int32 → MI → ML → Option (Int32 × MI × ML)) (x1 : Int32) (x3 : Int32) (x5 : Int32) (x6 : Int32) (y0 : Int32) (I : MI) (L : ML) : Option (Int32 × MI × ML) := f_X12_ghost_216 k168 x1 (x3 + 1) y0 x5 x6 I L
set_option maxRecDepth 100000 in
theorem S_X12_ghost_211 {g : Gx} {k168 : Int32 → Int32 → Int32 → Int32 → Int32 → MI → ML → Option (Int32 × MI × ML)} (hk168 : ∀ (x1z : Int32) (x3z : Int32) (x4z : Int32) (x5z : Int32) (x6z : Int32) (I : MI) (L : ML) (res : Int32 × MI × ML), k168 x1z x3z x4z x5z x6z I L = some res → E g 6 0 mX12_ghost 168 [(0, .ref 149), (1, .int x1z), (3, .int x3z), (4, .int x4z), (5, .int x5z), (6, .int x6z)] [] (I, L) (.inl (some (.int res.1))) (res.2.1, res.2.2)) (x1 : Int32) (x3 : Int32) (x5 : Int32) (x6 : Int32) (y0 : Int32) (I : MI) (L : ML) (res : Int32 × MI × ML) (h : f_X12_ghost_211 k168 x1 x3 x5 x6 y0 I L = some res) : E g 6 0 mX12_ghost 211 [(0, .ref 149), (1, .int x1), (3, .int x3), (5, .int x5), (6, .int x6)] [.int y0] (I, L) (.inl (some (.int res.1))) (res.2.1, res.2.2) := by
  unfold f_X12_ghost_211 at h
  refine E_istore (lv' := [(4, .int y0), (0, .ref 149), (1, .int x1), (3, .int x3), (5, .int x5), (6, .int x6)]) 213 rfl dX12_ghost_211 (Nat.le_of_ble_eq_true rfl) rfl ?_
  refine E_iinc (j := 3) (v := x3 + 1) (lv' := [(3, .int (x3 + 1)), (4, .int y0), (0, .ref 149), (1, .int x1), (5, .int x5), (6, .int x6)]) 216 rfl dX12_ghost_213 rfl rfl (Nat.le_of_ble_eq_true rfl) rfl ?_
  refine E_sub (lv' := [(0, .ref 149), (1, .int x1), (3, .int (x3 + 1)), (4, .int y0), (5, .int x5), (6, .int x6)]) [2, 3, 0, 1, 4, 5] rfl ?_
  exact S_X12_ghost_216 hk168 x1 (x3 + 1) y0 x5 x6 I L _ h
def f_X12_ghost_168 (k156 : Int32 → Int32 → Int32 → Int32 → MI → ML → Option (Int32 × MI × ML)) : Nat → Int32 → Int32 → Int32 → Int32 → Int32 → MI → ML → Option (Int32 × MI × ML)
  | 0, _, _, _, _, _, _, _ => none
  | n + 1, x1, x3, x4, x5, x6, I, L => if 99 < x6 then (k156 x1 x3 x4 (x5 + 1) I L) else (Option.bind (f_X12_isGhost x5 x6 I L) fun v2 => if v2 = true then (if 0 ≤ x4 then (f_X12_ghost_211 (f_X12_ghost_168 k156 n) x1 x3 x5 x6 x4 I L) else (if x1 = 1 then (f_X12_ghost_211 (f_X12_ghost_168 k156 n) x1 x3 x5 x6 x5 I L) else (f_X12_ghost_211 (f_X12_ghost_168 k156 n) x1 x3 x5 x6 x6 I L))) else (f_X12_ghost_216 (f_X12_ghost_168 k156 n) x1 x3 x4 x5 x6 I L))
set_option maxRecDepth 100000 in
theorem S_X12_ghost_168 {g : Gx} {k156 : Int32 → Int32 → Int32 → Int32 → MI → ML → Option (Int32 × MI × ML)} (hk156 : ∀ (x1z : Int32) (x3z : Int32) (x4z : Int32) (x5z : Int32) (I : MI) (L : ML) (res : Int32 × MI × ML), k156 x1z x3z x4z x5z I L = some res → E g 6 0 mX12_ghost 156 [(0, .ref 149), (1, .int x1z), (3, .int x3z), (4, .int x4z), (5, .int x5z)] [] (I, L) (.inl (some (.int res.1))) (res.2.1, res.2.2)) : ∀ (n : Nat) (x1 : Int32) (x3 : Int32) (x4 : Int32) (x5 : Int32) (x6 : Int32) (I : MI) (L : ML) (res : Int32 × MI × ML), f_X12_ghost_168 k156 n x1 x3 x4 x5 x6 I L = some res → E g 6 0 mX12_ghost 168 [(0, .ref 149), (1, .int x1), (3, .int x3), (4, .int x4), (5, .int x5), (6, .int x6)] [] (I, L) (.inl (some (.int res.1))) (res.2.1, res.2.2) := by
  intro n
  induction n with
  | zero =>
    intros
    rename_i h
    cases h
  | succ n ih =>
    intro x1 x3 x4 x5 x6 I L res h
    rw [f_X12_ghost_168] at h
    refine E_iload 170 rfl dX12_ghost_168 5 rfl ?_
    refine E_bipush (v := 99) 172 rfl dX12_ghost_170 (by decide) ?_
    refine E_icmp_gt 222 175 (by decide) rfl dX12_ghost_172 (fun c1 => ?_) (fun c1 => ?_)
    · rw [if_pos c1] at h
      refine E_iinc (j := 4) (v := x5 + 1) (lv' := [(5, .int (x5 + 1)), (0, .ref 149), (1, .int x1), (3, .int x3), (4, .int x4), (6, .int x6)]) 225 rfl dX12_ghost_222 rfl rfl (Nat.le_of_ble_eq_true rfl) rfl ?_
      refine E_goto 156 (by decide) dX12_ghost_225 ?_
      refine E_sub (lv' := [(0, .ref 149), (1, .int x1), (3, .int x3), (4, .int x4), (5, .int (x5 + 1))]) [1, 2, 3, 4, 0] rfl ?_
      exact hk156 x1 x3 x4 (x5 + 1) I L _ h
    · rw [if_neg c1] at h
      refine E_aload_n 176 rfl dX12_ghost_175 rfl 0 rfl ?_
      refine E_iload 178 rfl dX12_ghost_176 4 rfl ?_
      refine E_iload 180 rfl dX12_ghost_178 5 rfl ?_
      obtain ⟨v2, hv2, h⟩ := Option.bind_eq_some_iff.mp h
      refine E_cV1 (As := [.int x5, .int x6]) 183 rfl dX12_ghost_180 shc_149 ck_X12_357 cv_X12_isGhost rfl (by decide) (Nat.le_of_ble_eq_true rfl) (C_X12_isGhost (g := g) hv2) rfl ?_
      refine E_if_neB 189 186 (by decide) rfl dX12_ghost_183 (fun c3 => ?_) (fun c3 => ?_)
      · rw [if_pos c3] at h
        refine E_iload 191 rfl dX12_ghost_189 3 rfl ?_
        refine E_if_ge 209 194 (by decide) rfl dX12_ghost_191 (fun c4 => ?_) (fun c4 => ?_)
        · rw [if_pos c4] at h
          refine E_iload 211 rfl dX12_ghost_209 3 rfl ?_
          refine E_sub (lv' := [(0, .ref 149), (1, .int x1), (3, .int x3), (5, .int x5), (6, .int x6)]) [0, 1, 2, 4, 5] rfl ?_
          exact S_X12_ghost_211 ih x1 x3 x5 x6 x4 I L _ h
        · rw [if_neg c4] at h
          refine E_iload_n 195 rfl dX12_ghost_194 rfl 1 rfl ?_
          refine E_iconst (v := 1) 196 rfl dX12_ghost_195 (by decide) ?_
          refine E_icmp_ne 204 199 (by decide) rfl dX12_ghost_196 (fun c5 => ?_) (fun c5 => ?_)
          · rw [if_neg c5] at h
            refine E_iload 206 rfl dX12_ghost_204 5 rfl ?_
            refine E_goto 211 (by decide) dX12_ghost_206 ?_
            refine E_sub (lv' := [(0, .ref 149), (1, .int x1), (3, .int x3), (5, .int x5), (6, .int x6)]) [0, 1, 2, 4, 5] rfl ?_
            exact S_X12_ghost_211 ih x1 x3 x5 x6 x6 I L _ h
          · rw [if_pos c5] at h
            refine E_iload 201 rfl dX12_ghost_199 4 rfl ?_
            refine E_goto 211 (by decide) dX12_ghost_201 ?_
            refine E_sub (lv' := [(0, .ref 149), (1, .int x1), (3, .int x3), (5, .int x5), (6, .int x6)]) [0, 1, 2, 4, 5] rfl ?_
            exact S_X12_ghost_211 ih x1 x3 x5 x6 x5 I L _ h
      · rw [if_neg (by rw [c3]; decide)] at h
        refine E_goto 216 (by decide) dX12_ghost_186 ?_
        refine E_sub (lv' := [(0, .ref 149), (1, .int x1), (3, .int x3), (4, .int x4), (5, .int x5), (6, .int x6)]) [0, 1, 2, 3, 4, 5] rfl ?_
        exact S_X12_ghost_216 ih x1 x3 x4 x5 x6 I L _ h
def f_X12_ghost_156 : Nat → Int32 → Int32 → Int32 → Int32 → MI → ML → Option (Int32 × MI × ML)
  | 0, _, _, _, _, _, _ => none
  | n + 1, x1, x3, x4, x5, I, L => Option.bind (f_X12_rooms I L) fun v1 => if v1 ≤ x5 then (if x1 = 0 then (f_X12_ghost_238 x3 I L) else (f_X12_ghost_238 x4 I L)) else (f_X12_ghost_168 (f_X12_ghost_156 n) FU x1 x3 x4 x5 1 I L)
set_option maxRecDepth 100000 in
theorem S_X12_ghost_156 {g : Gx} : ∀ (n : Nat) (x1 : Int32) (x3 : Int32) (x4 : Int32) (x5 : Int32) (I : MI) (L : ML) (res : Int32 × MI × ML), f_X12_ghost_156 n x1 x3 x4 x5 I L = some res → E g 6 0 mX12_ghost 156 [(0, .ref 149), (1, .int x1), (3, .int x3), (4, .int x4), (5, .int x5)] [] (I, L) (.inl (some (.int res.1))) (res.2.1, res.2.2) := by
  intro n
  induction n with
  | zero =>
    intros
    rename_i h
    cases h
  | succ n ih =>
    intro x1 x3 x4 x5 I L res h
    rw [f_X12_ghost_156] at h
    refine E_iload 158 rfl dX12_ghost_156 4 rfl ?_
    refine E_aload_n 159 rfl dX12_ghost_158 rfl 0 rfl ?_
    obtain ⟨v1, hv1, h⟩ := Option.bind_eq_some_iff.mp h
    refine E_cV1 (As := []) 162 rfl dX12_ghost_159 shc_149 ck_X12_56 cv_X12_rooms rfl (by decide) (Nat.le_of_ble_eq_true rfl) (C_X12_rooms (g := g) hv1) rfl ?_
    refine E_icmp_ge 228 165 (by decide) rfl dX12_ghost_162 (fun c2 => ?_) (fun c2 => ?_)
    · rw [if_pos c2] at h
      refine E_iload_n 229 rfl dX12_ghost_228 rfl 1 rfl ?_
      refine E_if_ne 236 232 (by decide) rfl dX12_ghost_229 (fun c3 => ?_) (fun c3 => ?_)
      · rw [if_neg c3] at h
        refine E_iload 238 rfl dX12_ghost_236 3 rfl ?_
        refine E_sub (lv' := []) [] rfl ?_
        exact S_X12_ghost_238 x4 I L _ h
      · rw [if_pos c3] at h
        refine E_iload_n 233 rfl dX12_ghost_232 rfl 2 rfl ?_
        refine E_goto 238 (by decide) dX12_ghost_233 ?_
        refine E_sub (lv' := []) [] rfl ?_
        exact S_X12_ghost_238 x3 I L _ h
    · rw [if_neg c2] at h
      refine E_iconst (v := 1) 166 rfl dX12_ghost_165 (by decide) ?_
      refine E_istore (lv' := [(6, .int 1), (0, .ref 149), (1, .int x1), (3, .int x3), (4, .int x4), (5, .int x5)]) 168 rfl dX12_ghost_166 (Nat.le_of_ble_eq_true rfl) rfl ?_
      refine E_sub (lv' := [(0, .ref 149), (1, .int x1), (3, .int x3), (4, .int x4), (5, .int x5), (6, .int 1)]) [1, 2, 3, 4, 5, 0] rfl ?_
      exact S_X12_ghost_168 ih FU x1 x3 x4 x5 1 I L _ h
def f_X12_ghost_135 (x1 : Int32) (y1 : Bool) (I : MI) (L : ML) : Option (Int32 × MI × ML) := Option.bind (f_X12_throwsIf y1 2 I L) fun w1 => if w1.1 = true then (some (0, w1.2.1, w1.2.2)) else (Option.bind (f_X12_spreads w1.2.1 w1.2.2) fun w3 => f_X12_ghost_156 FU x1 0 ((-1)) 0 w3.1 w3.2)
set_option maxRecDepth 100000 in
theorem S_X12_ghost_135 {g : Gx} (x1 : Int32) (y1 : Bool) (I : MI) (L : ML) (res : Int32 × MI × ML) (h : f_X12_ghost_135 x1 y1 I L = some res) : E g 6 0 mX12_ghost 135 [(0, .ref 149), (1, .int x1)] [.int (bI y1), .ref 149] (I, L) (.inl (some (.int res.1))) (res.2.1, res.2.2) := by
  unfold f_X12_ghost_135 at h
  refine E_iconst (v := 2) 136 rfl dX12_ghost_135 (by decide) ?_
  obtain ⟨w1, hw1, h⟩ := Option.bind_eq_some_iff.mp h
  refine E_cV1 (As := [.int (bI y1), .int 2]) 139 rfl dX12_ghost_136 shc_149 ck_X12_245 cv_X12_throwsIf rfl (by decide) (Nat.le_of_ble_eq_true rfl) (C_X12_throwsIf (g := g) hw1) rfl ?_
  refine E_if_eqB 144 142 (by decide) rfl dX12_ghost_139 (fun c2 => ?_) (fun c2 => ?_)
  · rw [if_neg (by rw [c2]; decide)] at h
    refine E_aload_n 145 rfl dX12_ghost_144 rfl 0 rfl ?_
    obtain ⟨w3, hw3, h⟩ := Option.bind_eq_some_iff.mp h
    refine E_cV0 (As := []) 148 rfl dX12_ghost_145 shc_149 ck_X12_298 cv_X12_spreads rfl (by decide) (Nat.le_of_ble_eq_true rfl) (C_X12_spreads (g := g) hw3) rfl ?_
    refine E_iconst (v := 0) 149 rfl dX12_ghost_148 (by decide) ?_
    refine E_istore_n (lv' := [(3, .int 0), (0, .ref 149), (1, .int x1)]) 150 rfl dX12_ghost_149 rfl (Nat.le_of_ble_eq_true rfl) rfl ?_
    refine E_iconst (v := (-1)) 151 rfl dX12_ghost_150 (by decide) ?_
    refine E_istore (lv' := [(4, .int ((-1))), (3, .int 0), (0, .ref 149), (1, .int x1)]) 153 rfl dX12_ghost_151 (Nat.le_of_ble_eq_true rfl) rfl ?_
    refine E_iconst (v := 0) 154 rfl dX12_ghost_153 (by decide) ?_
    refine E_istore (lv' := [(5, .int 0), (4, .int ((-1))), (3, .int 0), (0, .ref 149), (1, .int x1)]) 156 rfl dX12_ghost_154 (Nat.le_of_ble_eq_true rfl) rfl ?_
    refine E_sub (lv' := [(0, .ref 149), (1, .int x1), (3, .int 0), (4, .int ((-1))), (5, .int 0)]) [3, 4, 2, 1, 0] rfl ?_
    exact S_X12_ghost_156 FU x1 0 ((-1)) 0 w3.1 w3.2 _ h
  · rw [if_pos c2] at h
    refine E_iconst (v := 0) 143 rfl dX12_ghost_142 (by decide) ?_
    cases h
    exact E_iret rfl dX12_ghost_143
def f_X12_ghost_118 (k61 : Int32 → Bool → Int32 → MI → ML → Option (Int32 × MI × ML)) (x1 : Int32) (x3 : Int32) (y0 : Bool) (I : MI) (L : ML) : Option (Int32 × MI × ML) := k61 x1 y0 (x3 + 1) I L
set_option maxRecDepth 100000 in
theorem S_X12_ghost_118 {g : Gx} {k61 : Int32 → Bool → Int32 → MI → ML → Option (Int32 × MI × ML)} (hk61 : ∀ (x1z : Int32) (x2z : Bool) (x3z : Int32) (I : MI) (L : ML) (res : Int32 × MI × ML), k61 x1z x2z x3z I L = some res → E g 6 0 mX12_ghost 61 [(0, .ref 149), (1, .int x1z), (2, .int (bI x2z)), (3, .int x3z)] [] (I, L) (.inl (some (.int res.1))) (res.2.1, res.2.2)) (x1 : Int32) (x3 : Int32) (y0 : Bool) (I : MI) (L : ML) (res : Int32 × MI × ML) (h : f_X12_ghost_118 k61 x1 x3 y0 I L = some res) : E g 6 0 mX12_ghost 118 [(0, .ref 149), (1, .int x1), (3, .int x3)] [.int (bI y0)] (I, L) (.inl (some (.int res.1))) (res.2.1, res.2.2) := by
  unfold f_X12_ghost_118 at h
  refine E_istore_n (lv' := [(2, .int (bI y0)), (0, .ref 149), (1, .int x1), (3, .int x3)]) 119 rfl dX12_ghost_118 rfl (Nat.le_of_ble_eq_true rfl) rfl ?_
  refine E_iinc (j := 3) (v := x3 + 1) (lv' := [(3, .int (x3 + 1)), (2, .int (bI y0)), (0, .ref 149), (1, .int x1)]) 122 rfl dX12_ghost_119 rfl rfl (Nat.le_of_ble_eq_true rfl) rfl ?_
  refine E_goto 61 (by decide) dX12_ghost_122 ?_
  refine E_sub (lv' := [(0, .ref 149), (1, .int x1), (2, .int (bI y0)), (3, .int (x3 + 1))]) [2, 3, 1, 0] rfl ?_
  exact hk61 x1 y0 (x3 + 1) I L _ h
def f_X12_ghost_117 (k61 : Int32 → Bool → Int32 → MI → ML → Option (Int32 × MI × ML)) (x1 : Int32) (x3 : Int32) (I : MI) (L : ML) : Option (Int32 × MI × ML) := f_X12_ghost_118 k61 x1 x3 false I L
set_option maxRecDepth 100000 in
theorem S_X12_ghost_117 {g : Gx} {k61 : Int32 → Bool → Int32 → MI → ML → Option (Int32 × MI × ML)} (hk61 : ∀ (x1z : Int32) (x2z : Bool) (x3z : Int32) (I : MI) (L : ML) (res : Int32 × MI × ML), k61 x1z x2z x3z I L = some res → E g 6 0 mX12_ghost 61 [(0, .ref 149), (1, .int x1z), (2, .int (bI x2z)), (3, .int x3z)] [] (I, L) (.inl (some (.int res.1))) (res.2.1, res.2.2)) (x1 : Int32) (x3 : Int32) (I : MI) (L : ML) (res : Int32 × MI × ML) (h : f_X12_ghost_117 k61 x1 x3 I L = some res) : E g 6 0 mX12_ghost 117 [(0, .ref 149), (1, .int x1), (3, .int x3)] [] (I, L) (.inl (some (.int res.1))) (res.2.1, res.2.2) := by
  unfold f_X12_ghost_117 at h
  refine E_iconst (v := 0) 118 rfl dX12_ghost_117 (by decide) ?_
  refine E_sub (lv' := [(0, .ref 149), (1, .int x1), (3, .int x3)]) [0, 1, 2] rfl ?_
  exact S_X12_ghost_118 hk61 x1 x3 false I L _ h
def f_X12_ghost_113 (k61 : Int32 → Bool → Int32 → MI → ML → Option (Int32 × MI × ML)) (x1 : Int32) (x3 : Int32) (I : MI) (L : ML) : Option (Int32 × MI × ML) := f_X12_ghost_118 k61 x1 x3 true I L
set_option maxRecDepth 100000 in
theorem S_X12_ghost_113 {g : Gx} {k61 : Int32 → Bool → Int32 → MI → ML → Option (Int32 × MI × ML)} (hk61 : ∀ (x1z : Int32) (x2z : Bool) (x3z : Int32) (I : MI) (L : ML) (res : Int32 × MI × ML), k61 x1z x2z x3z I L = some res → E g 6 0 mX12_ghost 61 [(0, .ref 149), (1, .int x1z), (2, .int (bI x2z)), (3, .int x3z)] [] (I, L) (.inl (some (.int res.1))) (res.2.1, res.2.2)) (x1 : Int32) (x3 : Int32) (I : MI) (L : ML) (res : Int32 × MI × ML) (h : f_X12_ghost_113 k61 x1 x3 I L = some res) : E g 6 0 mX12_ghost 113 [(0, .ref 149), (1, .int x1), (3, .int x3)] [] (I, L) (.inl (some (.int res.1))) (res.2.1, res.2.2) := by
  unfold f_X12_ghost_113 at h
  refine E_iconst (v := 1) 114 rfl dX12_ghost_113 (by decide) ?_
  refine E_goto 118 (by decide) dX12_ghost_114 ?_
  refine E_sub (lv' := [(0, .ref 149), (1, .int x1), (3, .int x3)]) [0, 1, 2] rfl ?_
  exact S_X12_ghost_118 hk61 x1 x3 true I L _ h
def f_X12_ghost_61 : Nat → Int32 → Bool → Int32 → MI → ML → Option (Int32 × MI × ML)
  | 0, _, _, _, _, _ => none
  | n + 1, x1, x2, x3, I, L => if (I 149 10) ≤ x3 then (if x2 = true then (f_X12_ghost_135 x1 false I L) else (f_X12_ghost_135 x1 true I L)) else (if x2 = true then (if (x3 - x3 / 2 * 2) = 0 then (Option.bind (ldI I 154 400 x3) fun v9 => Option.bind (f_X12_noRoom (v9 - 97) I L) fun v10 => if v10 = true then (f_X12_ghost_117 (f_X12_ghost_61 n) x1 x3 I L) else (f_X12_ghost_113 (f_X12_ghost_61 n) x1 x3 I L)) else (Option.bind (ldI I 154 400 x3) fun v6 => Option.bind (f_X12_in v6 0 99 I L) fun v7 => if v7 = true then (f_X12_ghost_113 (f_X12_ghost_61 n) x1 x3 I L) else (f_X12_ghost_117 (f_X12_ghost_61 n) x1 x3 I L))) else (f_X12_ghost_117 (f_X12_ghost_61 n) x1 x3 I L))
set_option maxRecDepth 100000 in
theorem S_X12_ghost_61 {g : Gx} : ∀ (n : Nat) (x1 : Int32) (x2 : Bool) (x3 : Int32) (I : MI) (L : ML) (res : Int32 × MI × ML), f_X12_ghost_61 n x1 x2 x3 I L = some res → E g 6 0 mX12_ghost 61 [(0, .ref 149), (1, .int x1), (2, .int (bI x2)), (3, .int x3)] [] (I, L) (.inl (some (.int res.1))) (res.2.1, res.2.2) := by
  intro n
  induction n with
  | zero =>
    intros
    rename_i h
    cases h
  | succ n ih =>
    intro x1 x2 x3 I L res h
    rw [f_X12_ghost_61] at h
    refine E_iload_n 62 rfl dX12_ghost_61 rfl 3 rfl ?_
    refine E_aload_n 63 rfl dX12_ghost_62 rfl 0 rfl ?_
    refine E_gI 66 rfl dX12_ghost_63 shc_149 fl_X12_76 rfl ?_
    refine E_icmp_ge 125 69 (by decide) rfl dX12_ghost_66 (fun c1 => ?_) (fun c1 => ?_)
    · rw [if_pos c1] at h
      refine E_aload_n 126 rfl dX12_ghost_125 rfl 0 rfl ?_
      refine E_iload_n 127 rfl dX12_ghost_126 rfl 2 rfl ?_
      refine E_if_neB 134 130 (by decide) rfl dX12_ghost_127 (fun c2 => ?_) (fun c2 => ?_)
      · rw [if_pos c2] at h
        refine E_iconst (v := 0) 135 rfl dX12_ghost_134 (by decide) ?_
        refine E_sub (lv' := [(0, .ref 149), (1, .int x1)]) [0, 1] rfl ?_
        exact S_X12_ghost_135 x1 false I L _ h
      · rw [if_neg (by rw [c2]; decide)] at h
        refine E_iconst (v := 1) 131 rfl dX12_ghost_130 (by decide) ?_
        refine E_goto 135 (by decide) dX12_ghost_131 ?_
        refine E_sub (lv' := [(0, .ref 149), (1, .int x1)]) [0, 1] rfl ?_
        exact S_X12_ghost_135 x1 true I L _ h
    · rw [if_neg c1] at h
      refine E_iload_n 70 rfl dX12_ghost_69 rfl 2 rfl ?_
      refine E_if_eqB 117 73 (by decide) rfl dX12_ghost_70 (fun c3 => ?_) (fun c3 => ?_)
      · rw [if_neg (by rw [c3]; decide)] at h
        refine E_sub (lv' := [(0, .ref 149), (1, .int x1), (3, .int x3)]) [0, 1, 3] rfl ?_
        exact S_X12_ghost_117 ih x1 x3 I L _ h
      · rw [if_pos c3] at h
        refine E_iload_n 74 rfl dX12_ghost_73 rfl 3 rfl ?_
        refine E_iconst (v := 2) 75 rfl dX12_ghost_74 (by decide) ?_
        refine E_irem 76 rfl dX12_ghost_75 (by decide) ?_
        refine E_if_ne 98 79 (by decide) rfl dX12_ghost_76 (fun c5 => ?_) (fun c5 => ?_)
        · rw [if_neg c5] at h
          refine E_aload_n 99 rfl dX12_ghost_98 rfl 0 rfl ?_
          refine E_gR 154 102 rfl dX12_ghost_99 shc_149 fl_X12_26 rfl (by decide) (by decide) ?_
          refine E_iload_n 103 rfl dX12_ghost_102 rfl 3 rfl ?_
          obtain ⟨v6, hv6, h⟩ := Option.bind_eq_some_iff.mp h
          refine E_ldB 104 rfl dX12_ghost_103 shc_154 hv6 ?_
          refine E_iconst (v := 0) 105 rfl dX12_ghost_104 (by decide) ?_
          refine E_bipush (v := 99) 107 rfl dX12_ghost_105 (by decide) ?_
          obtain ⟨v7, hv7, h⟩ := Option.bind_eq_some_iff.mp h
          refine E_cS1 (As := [.int v6, .int 0, .int 99]) 110 rfl dX12_ghost_107 ck_X12_60 ss_X12_in rfl (by decide) (Nat.le_of_ble_eq_true rfl) (C_X12_in (g := g) hv7) rfl ?_
          refine E_if_eqB 117 113 (by decide) rfl dX12_ghost_110 (fun c8 => ?_) (fun c8 => ?_)
          · rw [if_neg (by rw [c8]; decide)] at h
            refine E_sub (lv' := [(0, .ref 149), (1, .int x1), (3, .int x3)]) [0, 1, 3] rfl ?_
            exact S_X12_ghost_117 ih x1 x3 I L _ h
          · rw [if_pos c8] at h
            refine E_sub (lv' := [(0, .ref 149), (1, .int x1), (3, .int x3)]) [0, 1, 3] rfl ?_
            exact S_X12_ghost_113 ih x1 x3 I L _ h
        · rw [if_pos c5] at h
          refine E_aload_n 80 rfl dX12_ghost_79 rfl 0 rfl ?_
          refine E_aload_n 81 rfl dX12_ghost_80 rfl 0 rfl ?_
          refine E_gR 154 84 rfl dX12_ghost_81 shc_149 fl_X12_26 rfl (by decide) (by decide) ?_
          refine E_iload_n 85 rfl dX12_ghost_84 rfl 3 rfl ?_
          obtain ⟨v9, hv9, h⟩ := Option.bind_eq_some_iff.mp h
          refine E_ldB 86 rfl dX12_ghost_85 shc_154 hv9 ?_
          refine E_bipush (v := 97) 88 rfl dX12_ghost_86 (by decide) ?_
          refine E_isub 89 rfl dX12_ghost_88 ?_
          obtain ⟨v10, hv10, h⟩ := Option.bind_eq_some_iff.mp h
          refine E_cV1 (As := [.int (v9 - 97)]) 92 rfl dX12_ghost_89 shc_149 ck_X12_292 cv_X12_noRoom rfl (by decide) (Nat.le_of_ble_eq_true rfl) (C_X12_noRoom (g := g) hv10) rfl ?_
          refine E_if_neB 117 95 (by decide) rfl dX12_ghost_92 (fun c11 => ?_) (fun c11 => ?_)
          · rw [if_pos c11] at h
            refine E_sub (lv' := [(0, .ref 149), (1, .int x1), (3, .int x3)]) [0, 1, 3] rfl ?_
            exact S_X12_ghost_117 ih x1 x3 I L _ h
          · rw [if_neg (by rw [c11]; decide)] at h
            refine E_goto 113 (by decide) dX12_ghost_95 ?_
            refine E_sub (lv' := [(0, .ref 149), (1, .int x1), (3, .int x3)]) [0, 1, 3] rfl ?_
            exact S_X12_ghost_113 ih x1 x3 I L _ h
def f_X12_ghost_58 (x1 : Int32) (y0 : Bool) (I : MI) (L : ML) : Option (Int32 × MI × ML) := f_X12_ghost_61 FU x1 y0 0 I L
set_option maxRecDepth 100000 in
theorem S_X12_ghost_58 {g : Gx} (x1 : Int32) (y0 : Bool) (I : MI) (L : ML) (res : Int32 × MI × ML) (h : f_X12_ghost_58 x1 y0 I L = some res) : E g 6 0 mX12_ghost 58 [(0, .ref 149), (1, .int x1)] [.int (bI y0)] (I, L) (.inl (some (.int res.1))) (res.2.1, res.2.2) := by
  unfold f_X12_ghost_58 at h
  refine E_istore_n (lv' := [(2, .int (bI y0)), (0, .ref 149), (1, .int x1)]) 59 rfl dX12_ghost_58 rfl (Nat.le_of_ble_eq_true rfl) rfl ?_
  refine E_iconst (v := 0) 60 rfl dX12_ghost_59 (by decide) ?_
  refine E_istore_n (lv' := [(3, .int 0), (2, .int (bI y0)), (0, .ref 149), (1, .int x1)]) 61 rfl dX12_ghost_60 rfl (Nat.le_of_ble_eq_true rfl) rfl ?_
  refine E_sub (lv' := [(0, .ref 149), (1, .int x1), (2, .int (bI y0)), (3, .int 0)]) [2, 3, 1, 0] rfl ?_
  exact S_X12_ghost_61 FU x1 y0 0 I L _ h
def f_X12_ghost_57 (x1 : Int32) (I : MI) (L : ML) : Option (Int32 × MI × ML) := f_X12_ghost_58 x1 false I L
set_option maxRecDepth 100000 in
theorem S_X12_ghost_57 {g : Gx} (x1 : Int32) (I : MI) (L : ML) (res : Int32 × MI × ML) (h : f_X12_ghost_57 x1 I L = some res) : E g 6 0 mX12_ghost 57 [(0, .ref 149), (1, .int x1)] [] (I, L) (.inl (some (.int res.1))) (res.2.1, res.2.2) := by
  unfold f_X12_ghost_57 at h
  refine E_iconst (v := 0) 58 rfl dX12_ghost_57 (by decide) ?_
  refine E_sub (lv' := [(0, .ref 149), (1, .int x1)]) [0, 1] rfl ?_
  exact S_X12_ghost_58 x1 false I L _ h
def f_X12_ghost_19 (x1 : Int32) (y1 : Bool) (I : MI) (L : ML) : Option (Int32 × MI × ML) := Option.bind (f_X12_throwsIf y1 1 I L) fun w1 => if w1.1 = true then (some (0, w1.2.1, w1.2.2)) else (if (w1.2.1 149 10) ≤ 0 then (f_X12_ghost_57 x1 w1.2.1 w1.2.2) else (if ((w1.2.1 149 10) - (w1.2.1 149 10) / 2 * 2) = 0 then (if 12 < (w1.2.1 149 10) then (f_X12_ghost_57 x1 w1.2.1 w1.2.2) else (f_X12_ghost_58 x1 true w1.2.1 w1.2.2)) else (f_X12_ghost_57 x1 w1.2.1 w1.2.2)))
set_option maxRecDepth 100000 in
theorem S_X12_ghost_19 {g : Gx} (x1 : Int32) (y1 : Bool) (I : MI) (L : ML) (res : Int32 × MI × ML) (h : f_X12_ghost_19 x1 y1 I L = some res) : E g 6 0 mX12_ghost 19 [(0, .ref 149), (1, .int x1)] [.int (bI y1), .ref 149] (I, L) (.inl (some (.int res.1))) (res.2.1, res.2.2) := by
  unfold f_X12_ghost_19 at h
  refine E_iconst (v := 1) 20 rfl dX12_ghost_19 (by decide) ?_
  obtain ⟨w1, hw1, h⟩ := Option.bind_eq_some_iff.mp h
  refine E_cV1 (As := [.int (bI y1), .int 1]) 23 rfl dX12_ghost_20 shc_149 ck_X12_245 cv_X12_throwsIf rfl (by decide) (Nat.le_of_ble_eq_true rfl) (C_X12_throwsIf (g := g) hw1) rfl ?_
  refine E_if_eqB 28 26 (by decide) rfl dX12_ghost_23 (fun c2 => ?_) (fun c2 => ?_)
  · rw [if_neg (by rw [c2]; decide)] at h
    refine E_aload_n 29 rfl dX12_ghost_28 rfl 0 rfl ?_
    refine E_gI 32 rfl dX12_ghost_29 shc_149 fl_X12_76 rfl ?_
    refine E_if_le 57 35 (by decide) rfl dX12_ghost_32 (fun c3 => ?_) (fun c3 => ?_)
    · rw [if_pos c3] at h
      refine E_sub (lv' := [(0, .ref 149), (1, .int x1)]) [0, 1] rfl ?_
      exact S_X12_ghost_57 x1 w1.2.1 w1.2.2 _ h
    · rw [if_neg c3] at h
      refine E_aload_n 36 rfl dX12_ghost_35 rfl 0 rfl ?_
      refine E_gI 39 rfl dX12_ghost_36 shc_149 fl_X12_76 rfl ?_
      refine E_iconst (v := 2) 40 rfl dX12_ghost_39 (by decide) ?_
      refine E_irem 41 rfl dX12_ghost_40 (by decide) ?_
      refine E_if_ne 57 44 (by decide) rfl dX12_ghost_41 (fun c5 => ?_) (fun c5 => ?_)
      · rw [if_neg c5] at h
        refine E_sub (lv' := [(0, .ref 149), (1, .int x1)]) [0, 1] rfl ?_
        exact S_X12_ghost_57 x1 w1.2.1 w1.2.2 _ h
      · rw [if_pos c5] at h
        refine E_aload_n 45 rfl dX12_ghost_44 rfl 0 rfl ?_
        refine E_gI 48 rfl dX12_ghost_45 shc_149 fl_X12_76 rfl ?_
        refine E_bipush (v := 12) 50 rfl dX12_ghost_48 (by decide) ?_
        refine E_icmp_gt 57 53 (by decide) rfl dX12_ghost_50 (fun c6 => ?_) (fun c6 => ?_)
        · rw [if_pos c6] at h
          refine E_sub (lv' := [(0, .ref 149), (1, .int x1)]) [0, 1] rfl ?_
          exact S_X12_ghost_57 x1 w1.2.1 w1.2.2 _ h
        · rw [if_neg c6] at h
          refine E_iconst (v := 1) 54 rfl dX12_ghost_53 (by decide) ?_
          refine E_goto 58 (by decide) dX12_ghost_54 ?_
          refine E_sub (lv' := [(0, .ref 149), (1, .int x1)]) [0, 1] rfl ?_
          exact S_X12_ghost_58 x1 true w1.2.1 w1.2.2 _ h
  · rw [if_pos c2] at h
    refine E_iconst (v := 0) 27 rfl dX12_ghost_26 (by decide) ?_
    cases h
    exact E_iret rfl dX12_ghost_27
def f_X12_ghost (x1 : Int32) (I : MI) (L : ML) : Option (Int32 × MI × ML) := Option.bind (f_X12_uses I L) fun w1 => Option.bind (f_X12_in x1 0 2 w1.1 w1.2) fun v2 => if v2 = true then (f_X12_ghost_19 x1 false w1.1 w1.2) else (f_X12_ghost_19 x1 true w1.1 w1.2)
set_option maxRecDepth 100000 in
theorem S_X12_ghost {g : Gx} (x1 : Int32) (I : MI) (L : ML) (res : Int32 × MI × ML) (h : f_X12_ghost x1 I L = some res) : E g 6 0 mX12_ghost 0 [(0, .ref 149), (1, .int x1)] [] (I, L) (.inl (some (.int res.1))) (res.2.1, res.2.2) := by
  unfold f_X12_ghost at h
  refine E_aload_n 1 rfl dX12_ghost_0 rfl 0 rfl ?_
  obtain ⟨w1, hw1, h⟩ := Option.bind_eq_some_iff.mp h
  refine E_cV0 (As := []) 4 rfl dX12_ghost_1 shc_149 ck_X12_234 cv_X12_uses rfl (by decide) (Nat.le_of_ble_eq_true rfl) (C_X12_uses (g := g) hw1) rfl ?_
  refine E_aload_n 5 rfl dX12_ghost_4 rfl 0 rfl ?_
  refine E_iload_n 6 rfl dX12_ghost_5 rfl 1 rfl ?_
  refine E_iconst (v := 0) 7 rfl dX12_ghost_6 (by decide) ?_
  refine E_iconst (v := 2) 8 rfl dX12_ghost_7 (by decide) ?_
  obtain ⟨v2, hv2, h⟩ := Option.bind_eq_some_iff.mp h
  refine E_cS1 (As := [.int x1, .int 0, .int 2]) 11 rfl dX12_ghost_8 ck_X12_60 ss_X12_in rfl (by decide) (Nat.le_of_ble_eq_true rfl) (C_X12_in (g := g) hv2) rfl ?_
  refine E_if_neB 18 14 (by decide) rfl dX12_ghost_11 (fun c3 => ?_) (fun c3 => ?_)
  · rw [if_pos c3] at h
    refine E_iconst (v := 0) 19 rfl dX12_ghost_18 (by decide) ?_
    refine E_sub (lv' := [(0, .ref 149), (1, .int x1)]) [0, 1] rfl ?_
    exact S_X12_ghost_19 x1 false w1.1 w1.2 _ h
  · rw [if_neg (by rw [c3]; decide)] at h
    refine E_iconst (v := 1) 15 rfl dX12_ghost_14 (by decide) ?_
    refine E_goto 19 (by decide) dX12_ghost_15 ?_
    refine E_sub (lv' := [(0, .ref 149), (1, .int x1)]) [0, 1] rfl ?_
    exact S_X12_ghost_19 x1 true w1.1 w1.2 _ h
theorem C_X12_ghost {g : Gx} {x1 : Int32} {I : MI} {L : ML} {res : Int32 × MI × ML} (h : f_X12_ghost x1 I L = some res) : Ent g 6 0 mX12_ghost [.ref 149, .int x1] (I, L) (.inl (some (.int res.1))) (res.2.1, res.2.2) := Ent_of (by decide +kernel) (Nat.le_of_ble_eq_true rfl) (S_X12_ghost x1 I L _ h)
def f_X12_dueOfAll_9 : Nat → Int32 → Int64 → Int32 → MI → ML → Option (Int64 × MI × ML)
  | 0, _, _, _, _, _ => none
  | n + 1, x1, x2, x4, I, L => Option.bind (f_X12_noises I L) fun v1 => if v1 ≤ x4 then (some (x2, I, L)) else (Option.bind (f_X12_dueOf x4 x1 I L) fun v3 => f_X12_dueOfAll_9 n x1 (x2 + v3) (x4 + 1) I L)
set_option maxRecDepth 100000 in
theorem S_X12_dueOfAll_9 {g : Gx} : ∀ (n : Nat) (x1 : Int32) (x2 : Int64) (x4 : Int32) (I : MI) (L : ML) (res : Int64 × MI × ML), f_X12_dueOfAll_9 n x1 x2 x4 I L = some res → E g 9 0 mX12_dueOfAll 9 [(0, .ref 149), (1, .int x1), (2, .long x2), (4, .int x4)] [] (I, L) (.inl (some (.long res.1))) (res.2.1, res.2.2) := by
  intro n
  induction n with
  | zero =>
    intros
    rename_i h
    cases h
  | succ n ih =>
    intro x1 x2 x4 I L res h
    rw [f_X12_dueOfAll_9] at h
    refine E_iload 11 rfl dX12_dueOfAll_9 3 rfl ?_
    refine E_aload_n 12 rfl dX12_dueOfAll_11 rfl 0 rfl ?_
    obtain ⟨v1, hv1, h⟩ := Option.bind_eq_some_iff.mp h
    refine E_cV1 (As := []) 15 rfl dX12_dueOfAll_12 shc_149 ck_X12_67 cv_X12_noises rfl (by decide) (Nat.le_of_ble_eq_true rfl) (C_X12_noises (g := g) hv1) rfl ?_
    refine E_icmp_ge 34 18 (by decide) rfl dX12_dueOfAll_15 (fun c2 => ?_) (fun c2 => ?_)
    · rw [if_pos c2] at h
      refine E_lload_n 35 rfl dX12_dueOfAll_34 rfl 2 rfl ?_
      cases h
      exact E_lret rfl dX12_dueOfAll_35
    · rw [if_neg c2] at h
      refine E_lload_n 19 rfl dX12_dueOfAll_18 rfl 2 rfl ?_
      refine E_aload_n 20 rfl dX12_dueOfAll_19 rfl 0 rfl ?_
      refine E_iload 22 rfl dX12_dueOfAll_20 3 rfl ?_
      refine E_iload_n 23 rfl dX12_dueOfAll_22 rfl 1 rfl ?_
      obtain ⟨v3, hv3, h⟩ := Option.bind_eq_some_iff.mp h
      refine E_cV1 (As := [.int x4, .int x1]) 26 rfl dX12_dueOfAll_23 shc_149 ck_X12_351 cv_X12_dueOf rfl (by decide) (Nat.le_of_ble_eq_true rfl) (C_X12_dueOf (g := g) hv3) rfl ?_
      refine E_ladd 27 rfl dX12_dueOfAll_26 ?_
      refine E_lstore_n (lv' := [(2, .long (x2 + v3)), (0, .ref 149), (1, .int x1), (4, .int x4)]) 28 rfl dX12_dueOfAll_27 rfl (Nat.le_of_ble_eq_true rfl) rfl ?_
      refine E_iinc (j := 3) (v := x4 + 1) (lv' := [(4, .int (x4 + 1)), (2, .long (x2 + v3)), (0, .ref 149), (1, .int x1)]) 31 rfl dX12_dueOfAll_28 rfl rfl (Nat.le_of_ble_eq_true rfl) rfl ?_
      refine E_goto 9 (by decide) dX12_dueOfAll_31 ?_
      refine E_sub (lv' := [(0, .ref 149), (1, .int x1), (2, .long (x2 + v3)), (4, .int (x4 + 1))]) [2, 3, 1, 0] rfl ?_
      exact ih x1 (x2 + v3) (x4 + 1) I L _ h
def f_X12_dueOfAll (x1 : Int32) (I : MI) (L : ML) : Option (Int64 × MI × ML) := Option.bind (f_X12_spreads I L) fun w1 => f_X12_dueOfAll_9 FU x1 0 0 w1.1 w1.2
set_option maxRecDepth 100000 in
theorem S_X12_dueOfAll {g : Gx} (x1 : Int32) (I : MI) (L : ML) (res : Int64 × MI × ML) (h : f_X12_dueOfAll x1 I L = some res) : E g 9 0 mX12_dueOfAll 0 [(0, .ref 149), (1, .int x1)] [] (I, L) (.inl (some (.long res.1))) (res.2.1, res.2.2) := by
  unfold f_X12_dueOfAll at h
  refine E_aload_n 1 rfl dX12_dueOfAll_0 rfl 0 rfl ?_
  obtain ⟨w1, hw1, h⟩ := Option.bind_eq_some_iff.mp h
  refine E_cV0 (As := []) 4 rfl dX12_dueOfAll_1 shc_149 ck_X12_298 cv_X12_spreads rfl (by decide) (Nat.le_of_ble_eq_true rfl) (C_X12_spreads (g := g) hw1) rfl ?_
  refine E_lconst (v := 0) 5 rfl dX12_dueOfAll_4 (by decide) ?_
  refine E_lstore_n (lv' := [(2, .long 0), (0, .ref 149), (1, .int x1)]) 6 rfl dX12_dueOfAll_5 rfl (Nat.le_of_ble_eq_true rfl) rfl ?_
  refine E_iconst (v := 0) 7 rfl dX12_dueOfAll_6 (by decide) ?_
  refine E_istore (lv' := [(4, .int 0), (2, .long 0), (0, .ref 149), (1, .int x1)]) 9 rfl dX12_dueOfAll_7 (Nat.le_of_ble_eq_true rfl) rfl ?_
  refine E_sub (lv' := [(0, .ref 149), (1, .int x1), (2, .long 0), (4, .int 0)]) [2, 3, 1, 0] rfl ?_
  exact S_X12_dueOfAll_9 FU x1 0 0 w1.1 w1.2 _ h
theorem C_X12_dueOfAll {g : Gx} {x1 : Int32} {I : MI} {L : ML} {res : Int64 × MI × ML} (h : f_X12_dueOfAll x1 I L = some res) : Ent g 9 0 mX12_dueOfAll [.ref 149, .int x1] (I, L) (.inl (some (.long res.1))) (res.2.1, res.2.2) := Ent_of (by decide +kernel) (Nat.le_of_ble_eq_true rfl) (S_X12_dueOfAll x1 I L _ h)
def f_X12_breach_41 (I : MI) (L : ML) : Option (Int64 × MI × ML) := some (0, I, L)
set_option maxRecDepth 100000 in
theorem S_X12_breach_41 {g : Gx} (I : MI) (L : ML) (res : Int64 × MI × ML) (h : f_X12_breach_41 I L = some res) : E g 10 0 mX12_breach 41 [] [] (I, L) (.inl (some (.long res.1))) (res.2.1, res.2.2) := by
  unfold f_X12_breach_41 at h
  refine E_lconst (v := 0) 42 rfl dX12_breach_41 (by decide) ?_
  cases h
  exact E_lret rfl dX12_breach_42
def f_X12_breach_34 (x1 : Int32) (x2 : Int32) (y1 : Bool) (I : MI) (L : ML) : Option (Int64 × MI × ML) := Option.bind (f_X12_throwsIf y1 2 I L) fun w1 => if w1.1 = true then (f_X12_breach_41 w1.2.1 w1.2.2) else (Option.bind (ldI w1.2.1 150 2143 (15 + x1)) fun v3 => Option.bind (f_X12_dueOfAll 10 w1.2.1 w1.2.2) fun w4 => Option.bind (stI w4.2.1 150 2143 (15 + x1) x2) fun I5 => Option.bind (f_X12_dueOfAll 10 I5 w4.2.2) fun w6 => Option.bind (stI w6.2.1 150 2143 (15 + x1) v3) fun I7 => some (w4.1 - w6.1, I7, w6.2.2))
set_option maxRecDepth 100000 in
theorem S_X12_breach_34 {g : Gx} (x1 : Int32) (x2 : Int32) (y1 : Bool) (I : MI) (L : ML) (res : Int64 × MI × ML) (h : f_X12_breach_34 x1 x2 y1 I L = some res) : E g 10 0 mX12_breach 34 [(0, .ref 149), (1, .int x1), (2, .int x2)] [.int (bI y1), .ref 149] (I, L) (.inl (some (.long res.1))) (res.2.1, res.2.2) := by
  unfold f_X12_breach_34 at h
  refine E_iconst (v := 2) 35 rfl dX12_breach_34 (by decide) ?_
  obtain ⟨w1, hw1, h⟩ := Option.bind_eq_some_iff.mp h
  refine E_cV1 (As := [.int (bI y1), .int 2]) 38 rfl dX12_breach_35 shc_149 ck_X12_245 cv_X12_throwsIf rfl (by decide) (Nat.le_of_ble_eq_true rfl) (C_X12_throwsIf (g := g) hw1) rfl ?_
  refine E_if_eqB 43 41 (by decide) rfl dX12_breach_38 (fun c2 => ?_) (fun c2 => ?_)
  · rw [if_neg (by rw [c2]; decide)] at h
    refine E_aload_n 44 rfl dX12_breach_43 rfl 0 rfl ?_
    refine E_gR 150 47 rfl dX12_breach_44 shc_149 fl_X12_13 rfl (by decide) (by decide) ?_
    refine E_bipush (v := 15) 49 rfl dX12_breach_47 (by decide) ?_
    refine E_iload_n 50 rfl dX12_breach_49 rfl 1 rfl ?_
    refine E_iadd 51 rfl dX12_breach_50 ?_
    obtain ⟨v3, hv3, h⟩ := Option.bind_eq_some_iff.mp h
    refine E_ldI 52 rfl dX12_breach_51 shc_150 hv3 ?_
    refine E_istore_n (lv' := [(3, .int v3), (0, .ref 149), (1, .int x1), (2, .int x2)]) 53 rfl dX12_breach_52 rfl (Nat.le_of_ble_eq_true rfl) rfl ?_
    refine E_aload_n 54 rfl dX12_breach_53 rfl 1 rfl ?_
    refine E_bipush (v := 10) 56 rfl dX12_breach_54 (by decide) ?_
    obtain ⟨w4, hw4, h⟩ := Option.bind_eq_some_iff.mp h
    refine E_cV1 (As := [.int 10]) 59 rfl dX12_breach_56 shc_149 ck_X12_360 cv_X12_dueOfAll rfl (by decide) (Nat.le_of_ble_eq_true rfl) (C_X12_dueOfAll (g := g) hw4) rfl ?_
    refine E_lstore (lv' := [(4, .long w4.1), (3, .int v3), (0, .ref 149), (1, .int x1), (2, .int x2)]) 61 rfl dX12_breach_59 (Nat.le_of_ble_eq_true rfl) rfl ?_
    refine E_aload_n 62 rfl dX12_breach_61 rfl 2 rfl ?_
    refine E_gR 150 65 rfl dX12_breach_62 shc_149 fl_X12_13 rfl (by decide) (by decide) ?_
    refine E_bipush (v := 15) 67 rfl dX12_breach_65 (by decide) ?_
    refine E_iload_n 68 rfl dX12_breach_67 rfl 3 rfl ?_
    refine E_iadd 69 rfl dX12_breach_68 ?_
    refine E_iload_n 70 rfl dX12_breach_69 rfl 4 rfl ?_
    obtain ⟨I5, hI5, h⟩ := Option.bind_eq_some_iff.mp h
    refine E_stI 71 rfl dX12_breach_70 shc_150 hI5 ?_
    refine E_aload_n 72 rfl dX12_breach_71 rfl 2 rfl ?_
    refine E_bipush (v := 10) 74 rfl dX12_breach_72 (by decide) ?_
    obtain ⟨w6, hw6, h⟩ := Option.bind_eq_some_iff.mp h
    refine E_cV1 (As := [.int 10]) 77 rfl dX12_breach_74 shc_149 ck_X12_360 cv_X12_dueOfAll rfl (by decide) (Nat.le_of_ble_eq_true rfl) (C_X12_dueOfAll (g := g) hw6) rfl ?_
    refine E_lstore (lv' := [(6, .long w6.1), (4, .long w4.1), (3, .int v3), (0, .ref 149), (1, .int x1), (2, .int x2)]) 79 rfl dX12_breach_77 (Nat.le_of_ble_eq_true rfl) rfl ?_
    refine E_aload_n 80 rfl dX12_breach_79 rfl 3 rfl ?_
    refine E_gR 150 83 rfl dX12_breach_80 shc_149 fl_X12_13 rfl (by decide) (by decide) ?_
    refine E_bipush (v := 15) 85 rfl dX12_breach_83 (by decide) ?_
    refine E_iload_n 86 rfl dX12_breach_85 rfl 4 rfl ?_
    refine E_iadd 87 rfl dX12_breach_86 ?_
    refine E_iload_n 88 rfl dX12_breach_87 rfl 2 rfl ?_
    obtain ⟨I7, hI7, h⟩ := Option.bind_eq_some_iff.mp h
    refine E_stI 89 rfl dX12_breach_88 shc_150 hI7 ?_
    refine E_lload 91 rfl dX12_breach_89 1 rfl ?_
    refine E_lload 93 rfl dX12_breach_91 0 rfl ?_
    refine E_lsub 94 rfl dX12_breach_93 ?_
    cases h
    exact E_lret rfl dX12_breach_94
  · rw [if_pos c2] at h
    refine E_sub (lv' := []) [] rfl ?_
    exact S_X12_breach_41 w1.2.1 w1.2.2 _ h
def f_X12_breach (x1 : Int32) (x2 : Int32) (I : MI) (L : ML) : Option (Int64 × MI × ML) := Option.bind (pfI I 149 0 0) fun I1 => Option.bind (f_X12_noRoom x1 I1 L) fun v2 => Option.bind (f_X12_throwsIf v2 1 I1 L) fun w3 => if w3.1 = true then (f_X12_breach_41 w3.2.1 w3.2.2) else (Option.bind (f_X12_in x2 0 20 w3.2.1 w3.2.2) fun v5 => if v5 = true then (f_X12_breach_34 x1 x2 false w3.2.1 w3.2.2) else (f_X12_breach_34 x1 x2 true w3.2.1 w3.2.2))
set_option maxRecDepth 100000 in
theorem S_X12_breach {g : Gx} (x1 : Int32) (x2 : Int32) (I : MI) (L : ML) (res : Int64 × MI × ML) (h : f_X12_breach x1 x2 I L = some res) : E g 10 0 mX12_breach 0 [(0, .ref 149), (1, .int x1), (2, .int x2)] [] (I, L) (.inl (some (.long res.1))) (res.2.1, res.2.2) := by
  unfold f_X12_breach at h
  refine E_aload_n 1 rfl dX12_breach_0 rfl 0 rfl ?_
  refine E_iconst (v := 0) 2 rfl dX12_breach_1 (by decide) ?_
  obtain ⟨I1, hI1, h⟩ := Option.bind_eq_some_iff.mp h
  refine E_pfI 5 rfl dX12_breach_2 shc_149 fl_X12_3 rfl hI1 ?_
  refine E_aload_n 6 rfl dX12_breach_5 rfl 0 rfl ?_
  refine E_aload_n 7 rfl dX12_breach_6 rfl 0 rfl ?_
  refine E_iload_n 8 rfl dX12_breach_7 rfl 1 rfl ?_
  obtain ⟨v2, hv2, h⟩ := Option.bind_eq_some_iff.mp h
  refine E_cV1 (As := [.int x1]) 11 rfl dX12_breach_8 shc_149 ck_X12_292 cv_X12_noRoom rfl (by decide) (Nat.le_of_ble_eq_true rfl) (C_X12_noRoom (g := g) hv2) rfl ?_
  refine E_iconst (v := 1) 12 rfl dX12_breach_11 (by decide) ?_
  obtain ⟨w3, hw3, h⟩ := Option.bind_eq_some_iff.mp h
  refine E_cV1 (As := [.int (bI v2), .int 1]) 15 rfl dX12_breach_12 shc_149 ck_X12_245 cv_X12_throwsIf rfl (by decide) (Nat.le_of_ble_eq_true rfl) (C_X12_throwsIf (g := g) hw3) rfl ?_
  refine E_if_neB 41 18 (by decide) rfl dX12_breach_15 (fun c4 => ?_) (fun c4 => ?_)
  · rw [if_pos c4] at h
    refine E_sub (lv' := []) [] rfl ?_
    exact S_X12_breach_41 w3.2.1 w3.2.2 _ h
  · rw [if_neg (by rw [c4]; decide)] at h
    refine E_aload_n 19 rfl dX12_breach_18 rfl 0 rfl ?_
    refine E_iload_n 20 rfl dX12_breach_19 rfl 2 rfl ?_
    refine E_iconst (v := 0) 21 rfl dX12_breach_20 (by decide) ?_
    refine E_bipush (v := 20) 23 rfl dX12_breach_21 (by decide) ?_
    obtain ⟨v5, hv5, h⟩ := Option.bind_eq_some_iff.mp h
    refine E_cS1 (As := [.int x2, .int 0, .int 20]) 26 rfl dX12_breach_23 ck_X12_60 ss_X12_in rfl (by decide) (Nat.le_of_ble_eq_true rfl) (C_X12_in (g := g) hv5) rfl ?_
    refine E_if_neB 33 29 (by decide) rfl dX12_breach_26 (fun c6 => ?_) (fun c6 => ?_)
    · rw [if_pos c6] at h
      refine E_iconst (v := 0) 34 rfl dX12_breach_33 (by decide) ?_
      refine E_sub (lv' := [(0, .ref 149), (1, .int x1), (2, .int x2)]) [0, 1, 2] rfl ?_
      exact S_X12_breach_34 x1 x2 false w3.2.1 w3.2.2 _ h
    · rw [if_neg (by rw [c6]; decide)] at h
      refine E_iconst (v := 1) 30 rfl dX12_breach_29 (by decide) ?_
      refine E_goto 34 (by decide) dX12_breach_30 ?_
      refine E_sub (lv' := [(0, .ref 149), (1, .int x1), (2, .int x2)]) [0, 1, 2] rfl ?_
      exact S_X12_breach_34 x1 x2 true w3.2.1 w3.2.2 _ h
theorem C_X12_breach {g : Gx} {x1 : Int32} {x2 : Int32} {I : MI} {L : ML} {res : Int64 × MI × ML} (h : f_X12_breach x1 x2 I L = some res) : Ent g 10 0 mX12_breach [.ref 149, .int x1, .int x2] (I, L) (.inl (some (.long res.1))) (res.2.1, res.2.2) := Ent_of (by decide +kernel) (Nat.le_of_ble_eq_true rfl) (S_X12_breach x1 x2 I L _ h)
def f_X12_silence_159 (y0 : Int64) (I : MI) (L : ML) : Option (Int64 × MI × ML) := some (y0, I, L)
set_option maxRecDepth 100000 in
theorem S_X12_silence_159 {g : Gx} (y0 : Int64) (I : MI) (L : ML) (res : Int64 × MI × ML) (h : f_X12_silence_159 y0 I L = some res) : E g 9 0 mX12_silence 159 [] [.long y0] (I, L) (.inl (some (.long res.1))) (res.2.1, res.2.2) := by
  unfold f_X12_silence_159 at h
  cases h
  exact E_lret rfl dX12_silence_159
def f_X12_silence_126 (k64 : Int32 → Int32 → Int32 → Bool → Int64 → Int64 → Int32 → MI → ML → Option (Int64 × MI × ML)) (x1 : Int32) (x2 : Int32) (x3 : Int32) (x4 : Bool) (x5 : Int64) (x7 : Int64) (x9 : Int32) (I : MI) (L : ML) : Option (Int64 × MI × ML) := k64 x1 x2 x3 x4 x5 x7 (x9 + 1) I L
set_option maxRecDepth 100000 in
theorem S_X12_silence_126 {g : Gx} {k64 : Int32 → Int32 → Int32 → Bool → Int64 → Int64 → Int32 → MI → ML → Option (Int64 × MI × ML)} (hk64 : ∀ (x1z : Int32) (x2z : Int32) (x3z : Int32) (x4z : Bool) (x5z : Int64) (x7z : Int64) (x9z : Int32) (I : MI) (L : ML) (res : Int64 × MI × ML), k64 x1z x2z x3z x4z x5z x7z x9z I L = some res → E g 9 0 mX12_silence 64 [(0, .ref 149), (1, .int x1z), (2, .int x2z), (3, .int x3z), (4, .int (bI x4z)), (5, .long x5z), (7, .long x7z), (9, .int x9z)] [] (I, L) (.inl (some (.long res.1))) (res.2.1, res.2.2)) (x1 : Int32) (x2 : Int32) (x3 : Int32) (x4 : Bool) (x5 : Int64) (x7 : Int64) (x9 : Int32) (I : MI) (L : ML) (res : Int64 × MI × ML) (h : f_X12_silence_126 k64 x1 x2 x3 x4 x5 x7 x9 I L = some res) : E g 9 0 mX12_silence 126 [(0, .ref 149), (1, .int x1), (2, .int x2), (3, .int x3), (4, .int (bI x4)), (5, .long x5), (7, .long x7), (9, .int x9)] [] (I, L) (.inl (some (.long res.1))) (res.2.1, res.2.2) := by
  unfold f_X12_silence_126 at h
  refine E_iinc (j := 7) (v := x9 + 1) (lv' := [(9, .int (x9 + 1)), (0, .ref 149), (1, .int x1), (2, .int x2), (3, .int x3), (4, .int (bI x4)), (5, .long x5), (7, .long x7)]) 129 rfl dX12_silence_126 rfl rfl (Nat.le_of_ble_eq_true rfl) rfl ?_
  refine E_goto 64 (by decide) dX12_silence_129 ?_
  refine E_sub (lv' := [(0, .ref 149), (1, .int x1), (2, .int x2), (3, .int x3), (4, .int (bI x4)), (5, .long x5), (7, .long x7), (9, .int (x9 + 1))]) [1, 2, 3, 4, 5, 6, 7, 0] rfl ?_
  exact hk64 x1 x2 x3 x4 x5 x7 (x9 + 1) I L _ h
def f_X12_silence_64 : Nat → Int32 → Int32 → Int32 → Bool → Int64 → Int64 → Int32 → MI → ML → Option (Int64 × MI × ML)
  | 0, _, _, _, _, _, _, _, _, _ => none
  | n + 1, x1, x2, x3, x4, x5, x7, x9, I, L => Option.bind (f_X12_noises I L) fun v1 => if v1 ≤ x9 then (if x5 ≤ 9999 then (if x4 = true then (f_X12_silence_159 x7 I L) else (f_X12_silence_159 x5 I L)) else (f_X12_silence_159 ((-1)) I L)) else (Option.bind (f_X12_atOf x9 x1 I L) fun v5 => if v5 = 0 then (f_X12_silence_126 (f_X12_silence_64 n) x1 x2 x3 x4 x5 x7 x9 I L) else (Option.bind (f_X12_dueOf x9 x2 I L) fun v7 => Option.bind (dvL ((v7 + x3.toInt64) - 1) x3.toInt64) fun v8 => f_X12_silence_126 (f_X12_silence_64 n) x1 x2 x3 x4 (if (if v8 < 1 then 1 else v8) < x5 then x5 else (if v8 < 1 then 1 else v8)) (x7 + ((if v8 < 1 then 1 else v8) * x3.toInt64)) x9 I L))
set_option maxRecDepth 100000 in
theorem S_X12_silence_64 {g : Gx} : ∀ (n : Nat) (x1 : Int32) (x2 : Int32) (x3 : Int32) (x4 : Bool) (x5 : Int64) (x7 : Int64) (x9 : Int32) (I : MI) (L : ML) (res : Int64 × MI × ML), f_X12_silence_64 n x1 x2 x3 x4 x5 x7 x9 I L = some res → E g 9 0 mX12_silence 64 [(0, .ref 149), (1, .int x1), (2, .int x2), (3, .int x3), (4, .int (bI x4)), (5, .long x5), (7, .long x7), (9, .int x9)] [] (I, L) (.inl (some (.long res.1))) (res.2.1, res.2.2) := by
  intro n
  induction n with
  | zero =>
    intros
    rename_i h
    cases h
  | succ n ih =>
    intro x1 x2 x3 x4 x5 x7 x9 I L res h
    rw [f_X12_silence_64] at h
    refine E_iload 66 rfl dX12_silence_64 7 rfl ?_
    refine E_aload_n 67 rfl dX12_silence_66 rfl 0 rfl ?_
    obtain ⟨v1, hv1, h⟩ := Option.bind_eq_some_iff.mp h
    refine E_cV1 (As := []) 70 rfl dX12_silence_67 shc_149 ck_X12_67 cv_X12_noises rfl (by decide) (Nat.le_of_ble_eq_true rfl) (C_X12_noises (g := g) hv1) rfl ?_
    refine E_icmp_ge 132 73 (by decide) rfl dX12_silence_70 (fun c2 => ?_) (fun c2 => ?_)
    · rw [if_pos c2] at h
      refine E_lload 134 rfl dX12_silence_132 5 rfl ?_
      refine E_ldc2 137 rfl dX12_silence_134 csl_X12_366 ?_
      refine E_lc_le 147 138 141 (by decide) rfl rfl dX12_silence_137 dX12_silence_138 (fun c3 => ?_) (fun c3 => ?_)
      · rw [if_pos c3] at h
        refine E_iload 149 rfl dX12_silence_147 4 rfl ?_
        refine E_if_eqB 157 152 (by decide) rfl dX12_silence_149 (fun c4 => ?_) (fun c4 => ?_)
        · rw [if_neg (by rw [c4]; decide)] at h
          refine E_lload 159 rfl dX12_silence_157 5 rfl ?_
          refine E_sub (lv' := []) [] rfl ?_
          exact S_X12_silence_159 x5 I L _ h
        · rw [if_pos c4] at h
          refine E_lload 154 rfl dX12_silence_152 6 rfl ?_
          refine E_goto 159 (by decide) dX12_silence_154 ?_
          refine E_sub (lv' := []) [] rfl ?_
          exact S_X12_silence_159 x7 I L _ h
      · rw [if_neg c3] at h
        refine E_ldc2 144 rfl dX12_silence_141 csl_X12_368 ?_
        refine E_goto 159 (by decide) dX12_silence_144 ?_
        refine E_sub (lv' := []) [] rfl ?_
        exact S_X12_silence_159 ((-1)) I L _ h
    · rw [if_neg c2] at h
      refine E_aload_n 74 rfl dX12_silence_73 rfl 0 rfl ?_
      refine E_iload 76 rfl dX12_silence_74 7 rfl ?_
      refine E_iload_n 77 rfl dX12_silence_76 rfl 1 rfl ?_
      obtain ⟨v5, hv5, h⟩ := Option.bind_eq_some_iff.mp h
      refine E_cV1 (As := [.int x9, .int x1]) 80 rfl dX12_silence_77 shc_149 ck_X12_269 cv_X12_atOf rfl (by decide) (Nat.le_of_ble_eq_true rfl) (C_X12_atOf (g := g) hv5) rfl ?_
      refine E_if_ne 86 83 (by decide) rfl dX12_silence_80 (fun c6 => ?_) (fun c6 => ?_)
      · rw [if_neg c6] at h
        refine E_lconst (v := 1) 87 rfl dX12_silence_86 (by decide) ?_
        refine E_aload_n 88 rfl dX12_silence_87 rfl 0 rfl ?_
        refine E_iload 90 rfl dX12_silence_88 7 rfl ?_
        refine E_iload_n 91 rfl dX12_silence_90 rfl 2 rfl ?_
        obtain ⟨v7, hv7, h⟩ := Option.bind_eq_some_iff.mp h
        refine E_cV1 (As := [.int x9, .int x2]) 94 rfl dX12_silence_91 shc_149 ck_X12_351 cv_X12_dueOf rfl (by decide) (Nat.le_of_ble_eq_true rfl) (C_X12_dueOf (g := g) hv7) rfl ?_
        refine E_iload_n 95 rfl dX12_silence_94 rfl 3 rfl ?_
        refine E_i2l 96 rfl dX12_silence_95 ?_
        refine E_ladd 97 rfl dX12_silence_96 ?_
        refine E_lconst (v := 1) 98 rfl dX12_silence_97 (by decide) ?_
        refine E_lsub 99 rfl dX12_silence_98 ?_
        refine E_iload_n 100 rfl dX12_silence_99 rfl 3 rfl ?_
        refine E_i2l 101 rfl dX12_silence_100 ?_
        obtain ⟨v8, hv8, h⟩ := Option.bind_eq_some_iff.mp h
        refine E_dvL 102 rfl dX12_silence_101 hv8 ?_
        refine E_maxl 105 rfl dX12_silence_102 jm_X12_363 (by decide) (Nat.le_of_ble_eq_true rfl) ?_
        refine E_lstore (lv' := [(10, .long (if v8 < 1 then 1 else v8)), (0, .ref 149), (1, .int x1), (2, .int x2), (3, .int x3), (4, .int (bI x4)), (5, .long x5), (7, .long x7), (9, .int x9)]) 107 rfl dX12_silence_105 (Nat.le_of_ble_eq_true rfl) rfl ?_
        refine E_lload 109 rfl dX12_silence_107 6 rfl ?_
        refine E_lload 111 rfl dX12_silence_109 0 rfl ?_
        refine E_maxl 114 rfl dX12_silence_111 jm_X12_363 (by decide) (Nat.le_of_ble_eq_true rfl) ?_
        refine E_lstore (lv' := [(5, .long (if (if v8 < 1 then 1 else v8) < x5 then x5 else (if v8 < 1 then 1 else v8))), (10, .long (if v8 < 1 then 1 else v8)), (0, .ref 149), (1, .int x1), (2, .int x2), (3, .int x3), (4, .int (bI x4)), (7, .long x7), (9, .int x9)]) 116 rfl dX12_silence_114 (Nat.le_of_ble_eq_true rfl) rfl ?_
        refine E_lload 118 rfl dX12_silence_116 7 rfl ?_
        refine E_lload 120 rfl dX12_silence_118 1 rfl ?_
        refine E_iload_n 121 rfl dX12_silence_120 rfl 5 rfl ?_
        refine E_i2l 122 rfl dX12_silence_121 ?_
        refine E_lmul 123 rfl dX12_silence_122 ?_
        refine E_ladd 124 rfl dX12_silence_123 ?_
        refine E_lstore (lv' := [(7, .long (x7 + ((if v8 < 1 then 1 else v8) * x3.toInt64))), (5, .long (if (if v8 < 1 then 1 else v8) < x5 then x5 else (if v8 < 1 then 1 else v8))), (10, .long (if v8 < 1 then 1 else v8)), (0, .ref 149), (1, .int x1), (2, .int x2), (3, .int x3), (4, .int (bI x4)), (9, .int x9)]) 126 rfl dX12_silence_124 (Nat.le_of_ble_eq_true rfl) rfl ?_
        refine E_sub (lv' := [(0, .ref 149), (1, .int x1), (2, .int x2), (3, .int x3), (4, .int (bI x4)), (5, .long (if (if v8 < 1 then 1 else v8) < x5 then x5 else (if v8 < 1 then 1 else v8))), (7, .long (x7 + ((if v8 < 1 then 1 else v8) * x3.toInt64))), (9, .int x9)]) [3, 4, 5, 6, 7, 1, 0, 8] rfl ?_
        exact S_X12_silence_126 ih x1 x2 x3 x4 (if (if v8 < 1 then 1 else v8) < x5 then x5 else (if v8 < 1 then 1 else v8)) (x7 + ((if v8 < 1 then 1 else v8) * x3.toInt64)) x9 I L _ h
      · rw [if_pos c6] at h
        refine E_goto 126 (by decide) dX12_silence_83 ?_
        refine E_sub (lv' := [(0, .ref 149), (1, .int x1), (2, .int x2), (3, .int x3), (4, .int (bI x4)), (5, .long x5), (7, .long x7), (9, .int x9)]) [0, 1, 2, 3, 4, 5, 6, 7] rfl ?_
        exact S_X12_silence_126 ih x1 x2 x3 x4 x5 x7 x9 I L _ h
def f_X12_silence_49 (I : MI) (L : ML) : Option (Int64 × MI × ML) := some (0, I, L)
set_option maxRecDepth 100000 in
theorem S_X12_silence_49 {g : Gx} (I : MI) (L : ML) (res : Int64 × MI × ML) (h : f_X12_silence_49 I L = some res) : E g 9 0 mX12_silence 49 [] [] (I, L) (.inl (some (.long res.1))) (res.2.1, res.2.2) := by
  unfold f_X12_silence_49 at h
  refine E_lconst (v := 0) 50 rfl dX12_silence_49 (by decide) ?_
  cases h
  exact E_lret rfl dX12_silence_50
def f_X12_silence_42 (x1 : Int32) (x2 : Int32) (x3 : Int32) (x4 : Bool) (y1 : Bool) (I : MI) (L : ML) : Option (Int64 × MI × ML) := Option.bind (f_X12_throwsIf y1 2 I L) fun w1 => if w1.1 = true then (f_X12_silence_49 w1.2.1 w1.2.2) else (Option.bind (f_X12_spreads w1.2.1 w1.2.2) fun w3 => f_X12_silence_64 FU x1 x2 x3 x4 0 0 0 w3.1 w3.2)
set_option maxRecDepth 100000 in
theorem S_X12_silence_42 {g : Gx} (x1 : Int32) (x2 : Int32) (x3 : Int32) (x4 : Bool) (y1 : Bool) (I : MI) (L : ML) (res : Int64 × MI × ML) (h : f_X12_silence_42 x1 x2 x3 x4 y1 I L = some res) : E g 9 0 mX12_silence 42 [(0, .ref 149), (1, .int x1), (2, .int x2), (3, .int x3), (4, .int (bI x4))] [.int (bI y1), .ref 149] (I, L) (.inl (some (.long res.1))) (res.2.1, res.2.2) := by
  unfold f_X12_silence_42 at h
  refine E_iconst (v := 2) 43 rfl dX12_silence_42 (by decide) ?_
  obtain ⟨w1, hw1, h⟩ := Option.bind_eq_some_iff.mp h
  refine E_cV1 (As := [.int (bI y1), .int 2]) 46 rfl dX12_silence_43 shc_149 ck_X12_245 cv_X12_throwsIf rfl (by decide) (Nat.le_of_ble_eq_true rfl) (C_X12_throwsIf (g := g) hw1) rfl ?_
  refine E_if_eqB 51 49 (by decide) rfl dX12_silence_46 (fun c2 => ?_) (fun c2 => ?_)
  · rw [if_neg (by rw [c2]; decide)] at h
    refine E_aload_n 52 rfl dX12_silence_51 rfl 0 rfl ?_
    obtain ⟨w3, hw3, h⟩ := Option.bind_eq_some_iff.mp h
    refine E_cV0 (As := []) 55 rfl dX12_silence_52 shc_149 ck_X12_298 cv_X12_spreads rfl (by decide) (Nat.le_of_ble_eq_true rfl) (C_X12_spreads (g := g) hw3) rfl ?_
    refine E_lconst (v := 0) 56 rfl dX12_silence_55 (by decide) ?_
    refine E_lstore (lv' := [(5, .long 0), (0, .ref 149), (1, .int x1), (2, .int x2), (3, .int x3), (4, .int (bI x4))]) 58 rfl dX12_silence_56 (Nat.le_of_ble_eq_true rfl) rfl ?_
    refine E_lconst (v := 0) 59 rfl dX12_silence_58 (by decide) ?_
    refine E_lstore (lv' := [(7, .long 0), (5, .long 0), (0, .ref 149), (1, .int x1), (2, .int x2), (3, .int x3), (4, .int (bI x4))]) 61 rfl dX12_silence_59 (Nat.le_of_ble_eq_true rfl) rfl ?_
    refine E_iconst (v := 0) 62 rfl dX12_silence_61 (by decide) ?_
    refine E_istore (lv' := [(9, .int 0), (7, .long 0), (5, .long 0), (0, .ref 149), (1, .int x1), (2, .int x2), (3, .int x3), (4, .int (bI x4))]) 64 rfl dX12_silence_62 (Nat.le_of_ble_eq_true rfl) rfl ?_
    refine E_sub (lv' := [(0, .ref 149), (1, .int x1), (2, .int x2), (3, .int x3), (4, .int (bI x4)), (5, .long 0), (7, .long 0), (9, .int 0)]) [3, 4, 5, 6, 7, 2, 1, 0] rfl ?_
    exact S_X12_silence_64 FU x1 x2 x3 x4 0 0 0 w3.1 w3.2 _ h
  · rw [if_pos c2] at h
    refine E_sub (lv' := []) [] rfl ?_
    exact S_X12_silence_49 w1.2.1 w1.2.2 _ h
def f_X12_silence_37 (x1 : Int32) (x2 : Int32) (x3 : Int32) (x4 : Bool) (I : MI) (L : ML) : Option (Int64 × MI × ML) := f_X12_silence_42 x1 x2 x3 x4 true I L
set_option maxRecDepth 100000 in
theorem S_X12_silence_37 {g : Gx} (x1 : Int32) (x2 : Int32) (x3 : Int32) (x4 : Bool) (I : MI) (L : ML) (res : Int64 × MI × ML) (h : f_X12_silence_37 x1 x2 x3 x4 I L = some res) : E g 9 0 mX12_silence 37 [(0, .ref 149), (1, .int x1), (2, .int x2), (3, .int x3), (4, .int (bI x4))] [.ref 149] (I, L) (.inl (some (.long res.1))) (res.2.1, res.2.2) := by
  unfold f_X12_silence_37 at h
  refine E_iconst (v := 1) 38 rfl dX12_silence_37 (by decide) ?_
  refine E_goto 42 (by decide) dX12_silence_38 ?_
  refine E_sub (lv' := [(0, .ref 149), (1, .int x1), (2, .int x2), (3, .int x3), (4, .int (bI x4))]) [0, 1, 2, 3, 4] rfl ?_
  exact S_X12_silence_42 x1 x2 x3 x4 true I L _ h
def f_X12_silence (x1 : Int32) (x2 : Int32) (x3 : Int32) (x4 : Bool) (I : MI) (L : ML) : Option (Int64 × MI × ML) := Option.bind (pfI I 149 0 0) fun I1 => Option.bind (f_X12_noRoom x1 I1 L) fun v2 => Option.bind (f_X12_throwsIf v2 1 I1 L) fun w3 => if w3.1 = true then (f_X12_silence_49 w3.2.1 w3.2.2) else (Option.bind (f_X12_noDays x2 w3.2.1 w3.2.2) fun v5 => if v5 = true then (f_X12_silence_37 x1 x2 x3 x4 w3.2.1 w3.2.2) else (Option.bind (f_X12_in x3 1 999 w3.2.1 w3.2.2) fun v7 => if v7 = true then (f_X12_silence_42 x1 x2 x3 x4 false w3.2.1 w3.2.2) else (f_X12_silence_37 x1 x2 x3 x4 w3.2.1 w3.2.2)))
set_option maxRecDepth 100000 in
theorem S_X12_silence {g : Gx} (x1 : Int32) (x2 : Int32) (x3 : Int32) (x4 : Bool) (I : MI) (L : ML) (res : Int64 × MI × ML) (h : f_X12_silence x1 x2 x3 x4 I L = some res) : E g 9 0 mX12_silence 0 [(0, .ref 149), (1, .int x1), (2, .int x2), (3, .int x3), (4, .int (bI x4))] [] (I, L) (.inl (some (.long res.1))) (res.2.1, res.2.2) := by
  unfold f_X12_silence at h
  refine E_aload_n 1 rfl dX12_silence_0 rfl 0 rfl ?_
  refine E_iconst (v := 0) 2 rfl dX12_silence_1 (by decide) ?_
  obtain ⟨I1, hI1, h⟩ := Option.bind_eq_some_iff.mp h
  refine E_pfI 5 rfl dX12_silence_2 shc_149 fl_X12_3 rfl hI1 ?_
  refine E_aload_n 6 rfl dX12_silence_5 rfl 0 rfl ?_
  refine E_aload_n 7 rfl dX12_silence_6 rfl 0 rfl ?_
  refine E_iload_n 8 rfl dX12_silence_7 rfl 1 rfl ?_
  obtain ⟨v2, hv2, h⟩ := Option.bind_eq_some_iff.mp h
  refine E_cV1 (As := [.int x1]) 11 rfl dX12_silence_8 shc_149 ck_X12_292 cv_X12_noRoom rfl (by decide) (Nat.le_of_ble_eq_true rfl) (C_X12_noRoom (g := g) hv2) rfl ?_
  refine E_iconst (v := 1) 12 rfl dX12_silence_11 (by decide) ?_
  obtain ⟨w3, hw3, h⟩ := Option.bind_eq_some_iff.mp h
  refine E_cV1 (As := [.int (bI v2), .int 1]) 15 rfl dX12_silence_12 shc_149 ck_X12_245 cv_X12_throwsIf rfl (by decide) (Nat.le_of_ble_eq_true rfl) (C_X12_throwsIf (g := g) hw3) rfl ?_
  refine E_if_neB 49 18 (by decide) rfl dX12_silence_15 (fun c4 => ?_) (fun c4 => ?_)
  · rw [if_pos c4] at h
    refine E_sub (lv' := []) [] rfl ?_
    exact S_X12_silence_49 w3.2.1 w3.2.2 _ h
  · rw [if_neg (by rw [c4]; decide)] at h
    refine E_aload_n 19 rfl dX12_silence_18 rfl 0 rfl ?_
    refine E_iload_n 20 rfl dX12_silence_19 rfl 2 rfl ?_
    obtain ⟨v5, hv5, h⟩ := Option.bind_eq_some_iff.mp h
    refine E_cS1 (As := [.int x2]) 23 rfl dX12_silence_20 ck_X12_348 ss_X12_noDays rfl (by decide) (Nat.le_of_ble_eq_true rfl) (C_X12_noDays (g := g) hv5) rfl ?_
    refine E_if_neB 37 26 (by decide) rfl dX12_silence_23 (fun c6 => ?_) (fun c6 => ?_)
    · rw [if_pos c6] at h
      refine E_sub (lv' := [(0, .ref 149), (1, .int x1), (2, .int x2), (3, .int x3), (4, .int (bI x4))]) [0, 1, 2, 3, 4] rfl ?_
      exact S_X12_silence_37 x1 x2 x3 x4 w3.2.1 w3.2.2 _ h
    · rw [if_neg (by rw [c6]; decide)] at h
      refine E_iload_n 27 rfl dX12_silence_26 rfl 3 rfl ?_
      refine E_iconst (v := 1) 28 rfl dX12_silence_27 (by decide) ?_
      refine E_sipush (v := 999) 31 rfl dX12_silence_28 (by decide) ?_
      obtain ⟨v7, hv7, h⟩ := Option.bind_eq_some_iff.mp h
      refine E_cS1 (As := [.int x3, .int 1, .int 999]) 34 rfl dX12_silence_31 ck_X12_60 ss_X12_in rfl (by decide) (Nat.le_of_ble_eq_true rfl) (C_X12_in (g := g) hv7) rfl ?_
      refine E_if_neB 41 37 (by decide) rfl dX12_silence_34 (fun c8 => ?_) (fun c8 => ?_)
      · rw [if_pos c8] at h
        refine E_iconst (v := 0) 42 rfl dX12_silence_41 (by decide) ?_
        refine E_sub (lv' := [(0, .ref 149), (1, .int x1), (2, .int x2), (3, .int x3), (4, .int (bI x4))]) [0, 1, 2, 3, 4] rfl ?_
        exact S_X12_silence_42 x1 x2 x3 x4 false w3.2.1 w3.2.2 _ h
      · rw [if_neg (by rw [c8]; decide)] at h
        refine E_sub (lv' := [(0, .ref 149), (1, .int x1), (2, .int x2), (3, .int x3), (4, .int (bI x4))]) [0, 1, 2, 3, 4] rfl ?_
        exact S_X12_silence_37 x1 x2 x3 x4 w3.2.1 w3.2.2 _ h
theorem C_X12_silence {g : Gx} {x1 : Int32} {x2 : Int32} {x3 : Int32} {x4 : Bool} {I : MI} {L : ML} {res : Int64 × MI × ML} (h : f_X12_silence x1 x2 x3 x4 I L = some res) : Ent g 9 0 mX12_silence [.ref 149, .int x1, .int x2, .int x3, .int (bI x4)] (I, L) (.inl (some (.long res.1))) (res.2.1, res.2.2) := Ent_of (by decide +kernel) (Nat.le_of_ble_eq_true rfl) (S_X12_silence x1 x2 x3 x4 I L _ h)
def f_X12_ears_118 (y0 : Int32) (I : MI) (L : ML) : Option (Int32 × MI × ML) := some (y0, I, L)
set_option maxRecDepth 100000 in
theorem S_X12_ears_118 {g : Gx} (y0 : Int32) (I : MI) (L : ML) (res : Int32 × MI × ML) (h : f_X12_ears_118 y0 I L = some res) : E g 7 0 mX12_ears 118 [] [.int y0] (I, L) (.inl (some (.int res.1))) (res.2.1, res.2.2) := by
  unfold f_X12_ears_118 at h
  cases h
  exact E_iret rfl dX12_ears_118
def f_X12_ears_81 (k45 : Int32 → Int32 → Int32 → Int32 → MI → ML → Option (Int32 × MI × ML)) (x1 : Int32) (x2 : Int32) (x4 : Int32) (y0 : Int32) (y1 : Int32) (I : MI) (L : ML) : Option (Int32 × MI × ML) := k45 x1 x2 (y0 + y1) (x4 + 1) I L
set_option maxRecDepth 100000 in
theorem S_X12_ears_81 {g : Gx} {k45 : Int32 → Int32 → Int32 → Int32 → MI → ML → Option (Int32 × MI × ML)} (hk45 : ∀ (x1z : Int32) (x2z : Int32) (x3z : Int32) (x4z : Int32) (I : MI) (L : ML) (res : Int32 × MI × ML), k45 x1z x2z x3z x4z I L = some res → E g 7 0 mX12_ears 45 [(0, .ref 149), (1, .int x1z), (2, .int x2z), (3, .int x3z), (4, .int x4z)] [] (I, L) (.inl (some (.int res.1))) (res.2.1, res.2.2)) (x1 : Int32) (x2 : Int32) (x4 : Int32) (y0 : Int32) (y1 : Int32) (I : MI) (L : ML) (res : Int32 × MI × ML) (h : f_X12_ears_81 k45 x1 x2 x4 y0 y1 I L = some res) : E g 7 0 mX12_ears 81 [(0, .ref 149), (1, .int x1), (2, .int x2), (4, .int x4)] [.int y1, .int y0] (I, L) (.inl (some (.int res.1))) (res.2.1, res.2.2) := by
  unfold f_X12_ears_81 at h
  refine E_iadd 82 rfl dX12_ears_81 ?_
  refine E_istore_n (lv' := [(3, .int (y0 + y1)), (0, .ref 149), (1, .int x1), (2, .int x2), (4, .int x4)]) 83 rfl dX12_ears_82 rfl (Nat.le_of_ble_eq_true rfl) rfl ?_
  refine E_iinc (j := 4) (v := x4 + 1) (lv' := [(4, .int (x4 + 1)), (3, .int (y0 + y1)), (0, .ref 149), (1, .int x1), (2, .int x2)]) 86 rfl dX12_ears_83 rfl rfl (Nat.le_of_ble_eq_true rfl) rfl ?_
  refine E_goto 45 (by decide) dX12_ears_86 ?_
  refine E_sub (lv' := [(0, .ref 149), (1, .int x1), (2, .int x2), (3, .int (y0 + y1)), (4, .int (x4 + 1))]) [2, 3, 4, 1, 0] rfl ?_
  exact hk45 x1 x2 (y0 + y1) (x4 + 1) I L _ h
def f_X12_ears_45 : Nat → Int32 → Int32 → Int32 → Int32 → MI → ML → Option (Int32 × MI × ML)
  | 0, _, _, _, _, _, _ => none
  | n + 1, x1, x2, x3, x4, I, L => Option.bind (f_X12_heirs I L) fun v1 => if v1 ≤ x4 then (Option.bind (f_X12_isHearing x1 x2 I L) fun v3 => if v3 = true then (Option.bind (f_X12_ofHeir x1 0 I L) fun v5 => Option.bind (f_X12_atOf x2 v5 I L) fun v6 => Option.bind (dvI (100 * v6) x3) fun v7 => f_X12_ears_118 v7 I L) else (f_X12_ears_118 0 I L)) else (Option.bind (f_X12_isHearing x4 x2 I L) fun v8 => if v8 = true then (Option.bind (f_X12_ofHeir x4 0 I L) fun v10 => Option.bind (f_X12_atOf x2 v10 I L) fun v11 => f_X12_ears_81 (f_X12_ears_45 n) x1 x2 x4 x3 v11 I L) else (f_X12_ears_81 (f_X12_ears_45 n) x1 x2 x4 x3 0 I L))
set_option maxRecDepth 100000 in
theorem S_X12_ears_45 {g : Gx} : ∀ (n : Nat) (x1 : Int32) (x2 : Int32) (x3 : Int32) (x4 : Int32) (I : MI) (L : ML) (res : Int32 × MI × ML), f_X12_ears_45 n x1 x2 x3 x4 I L = some res → E g 7 0 mX12_ears 45 [(0, .ref 149), (1, .int x1), (2, .int x2), (3, .int x3), (4, .int x4)] [] (I, L) (.inl (some (.int res.1))) (res.2.1, res.2.2) := by
  intro n
  induction n with
  | zero =>
    intros
    rename_i h
    cases h
  | succ n ih =>
    intro x1 x2 x3 x4 I L res h
    rw [f_X12_ears_45] at h
    refine E_iload 47 rfl dX12_ears_45 4 rfl ?_
    refine E_aload_n 48 rfl dX12_ears_47 rfl 0 rfl ?_
    obtain ⟨v1, hv1, h⟩ := Option.bind_eq_some_iff.mp h
    refine E_cV1 (As := []) 51 rfl dX12_ears_48 shc_149 ck_X12_64 cv_X12_heirs rfl (by decide) (Nat.le_of_ble_eq_true rfl) (C_X12_heirs (g := g) hv1) rfl ?_
    refine E_icmp_ge 89 54 (by decide) rfl dX12_ears_51 (fun c2 => ?_) (fun c2 => ?_)
    · rw [if_pos c2] at h
      refine E_aload_n 90 rfl dX12_ears_89 rfl 0 rfl ?_
      refine E_iload_n 91 rfl dX12_ears_90 rfl 1 rfl ?_
      refine E_iload_n 92 rfl dX12_ears_91 rfl 2 rfl ?_
      obtain ⟨v3, hv3, h⟩ := Option.bind_eq_some_iff.mp h
      refine E_cV1 (As := [.int x1, .int x2]) 95 rfl dX12_ears_92 shc_149 ck_X12_272 cv_X12_isHearing rfl (by decide) (Nat.le_of_ble_eq_true rfl) (C_X12_isHearing (g := g) hv3) rfl ?_
      refine E_if_eqB 117 98 (by decide) rfl dX12_ears_95 (fun c4 => ?_) (fun c4 => ?_)
      · rw [if_neg (by rw [c4]; decide)] at h
        refine E_iconst (v := 0) 118 rfl dX12_ears_117 (by decide) ?_
        refine E_sub (lv' := []) [] rfl ?_
        exact S_X12_ears_118 0 I L _ h
      · rw [if_pos c4] at h
        refine E_bipush (v := 100) 100 rfl dX12_ears_98 (by decide) ?_
        refine E_aload_n 101 rfl dX12_ears_100 rfl 0 rfl ?_
        refine E_iload_n 102 rfl dX12_ears_101 rfl 2 rfl ?_
        refine E_aload_n 103 rfl dX12_ears_102 rfl 0 rfl ?_
        refine E_iload_n 104 rfl dX12_ears_103 rfl 1 rfl ?_
        refine E_iconst (v := 0) 105 rfl dX12_ears_104 (by decide) ?_
        obtain ⟨v5, hv5, h⟩ := Option.bind_eq_some_iff.mp h
        refine E_cV1 (As := [.int x1, .int 0]) 108 rfl dX12_ears_105 shc_149 ck_X12_266 cv_X12_ofHeir rfl (by decide) (Nat.le_of_ble_eq_true rfl) (C_X12_ofHeir (g := g) hv5) rfl ?_
        obtain ⟨v6, hv6, h⟩ := Option.bind_eq_some_iff.mp h
        refine E_cV1 (As := [.int x2, .int v5]) 111 rfl dX12_ears_108 shc_149 ck_X12_269 cv_X12_atOf rfl (by decide) (Nat.le_of_ble_eq_true rfl) (C_X12_atOf (g := g) hv6) rfl ?_
        refine E_imul 112 rfl dX12_ears_111 ?_
        refine E_iload_n 113 rfl dX12_ears_112 rfl 3 rfl ?_
        obtain ⟨v7, hv7, h⟩ := Option.bind_eq_some_iff.mp h
        refine E_dvI 114 rfl dX12_ears_113 hv7 ?_
        refine E_goto 118 (by decide) dX12_ears_114 ?_
        refine E_sub (lv' := []) [] rfl ?_
        exact S_X12_ears_118 v7 I L _ h
    · rw [if_neg c2] at h
      refine E_iload_n 55 rfl dX12_ears_54 rfl 3 rfl ?_
      refine E_aload_n 56 rfl dX12_ears_55 rfl 0 rfl ?_
      refine E_iload 58 rfl dX12_ears_56 4 rfl ?_
      refine E_iload_n 59 rfl dX12_ears_58 rfl 2 rfl ?_
      obtain ⟨v8, hv8, h⟩ := Option.bind_eq_some_iff.mp h
      refine E_cV1 (As := [.int x4, .int x2]) 62 rfl dX12_ears_59 shc_149 ck_X12_272 cv_X12_isHearing rfl (by decide) (Nat.le_of_ble_eq_true rfl) (C_X12_isHearing (g := g) hv8) rfl ?_
      refine E_if_eqB 80 65 (by decide) rfl dX12_ears_62 (fun c9 => ?_) (fun c9 => ?_)
      · rw [if_neg (by rw [c9]; decide)] at h
        refine E_iconst (v := 0) 81 rfl dX12_ears_80 (by decide) ?_
        refine E_sub (lv' := [(0, .ref 149), (1, .int x1), (2, .int x2), (4, .int x4)]) [0, 1, 2, 4] rfl ?_
        exact S_X12_ears_81 ih x1 x2 x4 x3 0 I L _ h
      · rw [if_pos c9] at h
        refine E_aload_n 66 rfl dX12_ears_65 rfl 0 rfl ?_
        refine E_iload_n 67 rfl dX12_ears_66 rfl 2 rfl ?_
        refine E_aload_n 68 rfl dX12_ears_67 rfl 0 rfl ?_
        refine E_iload 70 rfl dX12_ears_68 4 rfl ?_
        refine E_iconst (v := 0) 71 rfl dX12_ears_70 (by decide) ?_
        obtain ⟨v10, hv10, h⟩ := Option.bind_eq_some_iff.mp h
        refine E_cV1 (As := [.int x4, .int 0]) 74 rfl dX12_ears_71 shc_149 ck_X12_266 cv_X12_ofHeir rfl (by decide) (Nat.le_of_ble_eq_true rfl) (C_X12_ofHeir (g := g) hv10) rfl ?_
        obtain ⟨v11, hv11, h⟩ := Option.bind_eq_some_iff.mp h
        refine E_cV1 (As := [.int x2, .int v10]) 77 rfl dX12_ears_74 shc_149 ck_X12_269 cv_X12_atOf rfl (by decide) (Nat.le_of_ble_eq_true rfl) (C_X12_atOf (g := g) hv11) rfl ?_
        refine E_goto 81 (by decide) dX12_ears_77 ?_
        refine E_sub (lv' := [(0, .ref 149), (1, .int x1), (2, .int x2), (4, .int x4)]) [0, 1, 2, 4] rfl ?_
        exact S_X12_ears_81 ih x1 x2 x4 x3 v11 I L _ h
def f_X12_ears_27 (x1 : Int32) (x2 : Int32) (y1 : Bool) (I : MI) (L : ML) : Option (Int32 × MI × ML) := Option.bind (f_X12_throwsIf y1 1 I L) fun w1 => if w1.1 = true then (some (0, w1.2.1, w1.2.2)) else (Option.bind (f_X12_spreads w1.2.1 w1.2.2) fun w3 => f_X12_ears_45 FU x1 x2 0 0 w3.1 w3.2)
set_option maxRecDepth 100000 in
theorem S_X12_ears_27 {g : Gx} (x1 : Int32) (x2 : Int32) (y1 : Bool) (I : MI) (L : ML) (res : Int32 × MI × ML) (h : f_X12_ears_27 x1 x2 y1 I L = some res) : E g 7 0 mX12_ears 27 [(0, .ref 149), (1, .int x1), (2, .int x2)] [.int (bI y1), .ref 149] (I, L) (.inl (some (.int res.1))) (res.2.1, res.2.2) := by
  unfold f_X12_ears_27 at h
  refine E_iconst (v := 1) 28 rfl dX12_ears_27 (by decide) ?_
  obtain ⟨w1, hw1, h⟩ := Option.bind_eq_some_iff.mp h
  refine E_cV1 (As := [.int (bI y1), .int 1]) 31 rfl dX12_ears_28 shc_149 ck_X12_245 cv_X12_throwsIf rfl (by decide) (Nat.le_of_ble_eq_true rfl) (C_X12_throwsIf (g := g) hw1) rfl ?_
  refine E_if_eqB 36 34 (by decide) rfl dX12_ears_31 (fun c2 => ?_) (fun c2 => ?_)
  · rw [if_neg (by rw [c2]; decide)] at h
    refine E_aload_n 37 rfl dX12_ears_36 rfl 0 rfl ?_
    obtain ⟨w3, hw3, h⟩ := Option.bind_eq_some_iff.mp h
    refine E_cV0 (As := []) 40 rfl dX12_ears_37 shc_149 ck_X12_298 cv_X12_spreads rfl (by decide) (Nat.le_of_ble_eq_true rfl) (C_X12_spreads (g := g) hw3) rfl ?_
    refine E_iconst (v := 0) 41 rfl dX12_ears_40 (by decide) ?_
    refine E_istore_n (lv' := [(3, .int 0), (0, .ref 149), (1, .int x1), (2, .int x2)]) 42 rfl dX12_ears_41 rfl (Nat.le_of_ble_eq_true rfl) rfl ?_
    refine E_iconst (v := 0) 43 rfl dX12_ears_42 (by decide) ?_
    refine E_istore (lv' := [(4, .int 0), (3, .int 0), (0, .ref 149), (1, .int x1), (2, .int x2)]) 45 rfl dX12_ears_43 (Nat.le_of_ble_eq_true rfl) rfl ?_
    refine E_sub (lv' := [(0, .ref 149), (1, .int x1), (2, .int x2), (3, .int 0), (4, .int 0)]) [2, 3, 4, 1, 0] rfl ?_
    exact S_X12_ears_45 FU x1 x2 0 0 w3.1 w3.2 _ h
  · rw [if_pos c2] at h
    refine E_iconst (v := 0) 35 rfl dX12_ears_34 (by decide) ?_
    cases h
    exact E_iret rfl dX12_ears_35
def f_X12_ears_22 (x1 : Int32) (x2 : Int32) (I : MI) (L : ML) : Option (Int32 × MI × ML) := f_X12_ears_27 x1 x2 true I L
set_option maxRecDepth 100000 in
theorem S_X12_ears_22 {g : Gx} (x1 : Int32) (x2 : Int32) (I : MI) (L : ML) (res : Int32 × MI × ML) (h : f_X12_ears_22 x1 x2 I L = some res) : E g 7 0 mX12_ears 22 [(0, .ref 149), (1, .int x1), (2, .int x2)] [.ref 149] (I, L) (.inl (some (.int res.1))) (res.2.1, res.2.2) := by
  unfold f_X12_ears_22 at h
  refine E_iconst (v := 1) 23 rfl dX12_ears_22 (by decide) ?_
  refine E_goto 27 (by decide) dX12_ears_23 ?_
  refine E_sub (lv' := [(0, .ref 149), (1, .int x1), (2, .int x2)]) [0, 1, 2] rfl ?_
  exact S_X12_ears_27 x1 x2 true I L _ h
def f_X12_ears (x1 : Int32) (x2 : Int32) (I : MI) (L : ML) : Option (Int32 × MI × ML) := Option.bind (pfI I 149 0 0) fun I1 => Option.bind (f_X12_noHeir x1 I1 L) fun v2 => if v2 = true then (f_X12_ears_22 x1 x2 I1 L) else (Option.bind (f_X12_noNoise x2 I1 L) fun v4 => if v4 = true then (f_X12_ears_22 x1 x2 I1 L) else (f_X12_ears_27 x1 x2 false I1 L))
set_option maxRecDepth 100000 in
theorem S_X12_ears {g : Gx} (x1 : Int32) (x2 : Int32) (I : MI) (L : ML) (res : Int32 × MI × ML) (h : f_X12_ears x1 x2 I L = some res) : E g 7 0 mX12_ears 0 [(0, .ref 149), (1, .int x1), (2, .int x2)] [] (I, L) (.inl (some (.int res.1))) (res.2.1, res.2.2) := by
  unfold f_X12_ears at h
  refine E_aload_n 1 rfl dX12_ears_0 rfl 0 rfl ?_
  refine E_iconst (v := 0) 2 rfl dX12_ears_1 (by decide) ?_
  obtain ⟨I1, hI1, h⟩ := Option.bind_eq_some_iff.mp h
  refine E_pfI 5 rfl dX12_ears_2 shc_149 fl_X12_3 rfl hI1 ?_
  refine E_aload_n 6 rfl dX12_ears_5 rfl 0 rfl ?_
  refine E_aload_n 7 rfl dX12_ears_6 rfl 0 rfl ?_
  refine E_iload_n 8 rfl dX12_ears_7 rfl 1 rfl ?_
  obtain ⟨v2, hv2, h⟩ := Option.bind_eq_some_iff.mp h
  refine E_cV1 (As := [.int x1]) 11 rfl dX12_ears_8 shc_149 ck_X12_301 cv_X12_noHeir rfl (by decide) (Nat.le_of_ble_eq_true rfl) (C_X12_noHeir (g := g) hv2) rfl ?_
  refine E_if_neB 22 14 (by decide) rfl dX12_ears_11 (fun c3 => ?_) (fun c3 => ?_)
  · rw [if_pos c3] at h
    refine E_sub (lv' := [(0, .ref 149), (1, .int x1), (2, .int x2)]) [0, 1, 2] rfl ?_
    exact S_X12_ears_22 x1 x2 I1 L _ h
  · rw [if_neg (by rw [c3]; decide)] at h
    refine E_aload_n 15 rfl dX12_ears_14 rfl 0 rfl ?_
    refine E_iload_n 16 rfl dX12_ears_15 rfl 2 rfl ?_
    obtain ⟨v4, hv4, h⟩ := Option.bind_eq_some_iff.mp h
    refine E_cV1 (As := [.int x2]) 19 rfl dX12_ears_16 shc_149 ck_X12_304 cv_X12_noNoise rfl (by decide) (Nat.le_of_ble_eq_true rfl) (C_X12_noNoise (g := g) hv4) rfl ?_
    refine E_if_eqB 26 22 (by decide) rfl dX12_ears_19 (fun c5 => ?_) (fun c5 => ?_)
    · rw [if_neg (by rw [c5]; decide)] at h
      refine E_iconst (v := 0) 27 rfl dX12_ears_26 (by decide) ?_
      refine E_sub (lv' := [(0, .ref 149), (1, .int x1), (2, .int x2)]) [0, 1, 2] rfl ?_
      exact S_X12_ears_27 x1 x2 false I1 L _ h
    · rw [if_pos c5] at h
      refine E_sub (lv' := [(0, .ref 149), (1, .int x1), (2, .int x2)]) [0, 1, 2] rfl ?_
      exact S_X12_ears_22 x1 x2 I1 L _ h
theorem C_X12_ears {g : Gx} {x1 : Int32} {x2 : Int32} {I : MI} {L : ML} {res : Int32 × MI × ML} (h : f_X12_ears x1 x2 I L = some res) : Ent g 7 0 mX12_ears [.ref 149, .int x1, .int x2] (I, L) (.inl (some (.int res.1))) (res.2.1, res.2.2) := Ent_of (by decide +kernel) (Nat.le_of_ble_eq_true rfl) (S_X12_ears x1 x2 I L _ h)
def f_X12_seat_149 (k31 : Int32 → Int32 → Int64 → Int32 → MI → ML → Option (Int32 × MI × ML)) (x1 : Int32) (x2 : Int32) (x3 : Int64) (x5 : Int32) (I : MI) (L : ML) : Option (Int32 × MI × ML) := k31 x1 x2 x3 (x5 + 1) I L
set_option maxRecDepth 100000 in
theorem S_X12_seat_149 {g : Gx} {k31 : Int32 → Int32 → Int64 → Int32 → MI → ML → Option (Int32 × MI × ML)} (hk31 : ∀ (x1z : Int32) (x2z : Int32) (x3z : Int64) (x5z : Int32) (I : MI) (L : ML) (res : Int32 × MI × ML), k31 x1z x2z x3z x5z I L = some res → E g 11 0 mX12_seat 31 [(0, .ref 149), (1, .int x1z), (2, .int x2z), (3, .long x3z), (5, .int x5z)] [] (I, L) (.inl (some (.int res.1))) (res.2.1, res.2.2)) (x1 : Int32) (x2 : Int32) (x3 : Int64) (x5 : Int32) (I : MI) (L : ML) (res : Int32 × MI × ML) (h : f_X12_seat_149 k31 x1 x2 x3 x5 I L = some res) : E g 11 0 mX12_seat 149 [(0, .ref 149), (1, .int x1), (2, .int x2), (3, .long x3), (5, .int x5)] [] (I, L) (.inl (some (.int res.1))) (res.2.1, res.2.2) := by
  unfold f_X12_seat_149 at h
  refine E_iinc (j := 4) (v := x5 + 1) (lv' := [(5, .int (x5 + 1)), (0, .ref 149), (1, .int x1), (2, .int x2), (3, .long x3)]) 152 rfl dX12_seat_149 rfl rfl (Nat.le_of_ble_eq_true rfl) rfl ?_
  refine E_goto 31 (by decide) dX12_seat_152 ?_
  refine E_sub (lv' := [(0, .ref 149), (1, .int x1), (2, .int x2), (3, .long x3), (5, .int (x5 + 1))]) [1, 2, 3, 4, 0] rfl ?_
  exact hk31 x1 x2 x3 (x5 + 1) I L _ h
def f_X12_seat_143 (k31 : Int32 → Int32 → Int64 → Int32 → MI → ML → Option (Int32 × MI × ML)) (x1 : Int32) (x5 : Int32) (x6 : Int64) (I : MI) (L : ML) : Option (Int32 × MI × ML) := f_X12_seat_149 k31 x1 x5 x6 x5 I L
set_option maxRecDepth 100000 in
theorem S_X12_seat_143 {g : Gx} {k31 : Int32 → Int32 → Int64 → Int32 → MI → ML → Option (Int32 × MI × ML)} (hk31 : ∀ (x1z : Int32) (x2z : Int32) (x3z : Int64) (x5z : Int32) (I : MI) (L : ML) (res : Int32 × MI × ML), k31 x1z x2z x3z x5z I L = some res → E g 11 0 mX12_seat 31 [(0, .ref 149), (1, .int x1z), (2, .int x2z), (3, .long x3z), (5, .int x5z)] [] (I, L) (.inl (some (.int res.1))) (res.2.1, res.2.2)) (x1 : Int32) (x5 : Int32) (x6 : Int64) (I : MI) (L : ML) (res : Int32 × MI × ML) (h : f_X12_seat_143 k31 x1 x5 x6 I L = some res) : E g 11 0 mX12_seat 143 [(0, .ref 149), (1, .int x1), (5, .int x5), (6, .long x6)] [] (I, L) (.inl (some (.int res.1))) (res.2.1, res.2.2) := by
  unfold f_X12_seat_143 at h
  refine E_iload 145 rfl dX12_seat_143 2 rfl ?_
  refine E_istore_n (lv' := [(2, .int x5), (0, .ref 149), (1, .int x1), (5, .int x5), (6, .long x6)]) 146 rfl dX12_seat_145 rfl (Nat.le_of_ble_eq_true rfl) rfl ?_
  refine E_lload 148 rfl dX12_seat_146 4 rfl ?_
  refine E_lstore_n (lv' := [(3, .long x6), (2, .int x5), (0, .ref 149), (1, .int x1), (5, .int x5), (6, .long x6)]) 149 rfl dX12_seat_148 rfl (Nat.le_of_ble_eq_true rfl) rfl ?_
  refine E_sub (lv' := [(0, .ref 149), (1, .int x1), (2, .int x5), (3, .long x6), (5, .int x5)]) [2, 3, 1, 0, 4] rfl ?_
  exact S_X12_seat_149 hk31 x1 x5 x6 x5 I L _ h
def f_X12_seat_120 (k46 : Int32 → Int32 → Int64 → Int32 → Int64 → Int32 → MI → ML → Option (Int32 × MI × ML)) (x1 : Int32) (x2 : Int32) (x3 : Int64) (x5 : Int32) (x8 : Int32) (y0 : Int64) (y1 : Int64) (I : MI) (L : ML) : Option (Int32 × MI × ML) := k46 x1 x2 x3 x5 (y0 + y1) (x8 + 1) I L
set_option maxRecDepth 100000 in
theorem S_X12_seat_120 {g : Gx} {k46 : Int32 → Int32 → Int64 → Int32 → Int64 → Int32 → MI → ML → Option (Int32 × MI × ML)} (hk46 : ∀ (x1z : Int32) (x2z : Int32) (x3z : Int64) (x5z : Int32) (x6z : Int64) (x8z : Int32) (I : MI) (L : ML) (res : Int32 × MI × ML), k46 x1z x2z x3z x5z x6z x8z I L = some res → E g 11 0 mX12_seat 46 [(0, .ref 149), (1, .int x1z), (2, .int x2z), (3, .long x3z), (5, .int x5z), (6, .long x6z), (8, .int x8z)] [] (I, L) (.inl (some (.int res.1))) (res.2.1, res.2.2)) (x1 : Int32) (x2 : Int32) (x3 : Int64) (x5 : Int32) (x8 : Int32) (y0 : Int64) (y1 : Int64) (I : MI) (L : ML) (res : Int32 × MI × ML) (h : f_X12_seat_120 k46 x1 x2 x3 x5 x8 y0 y1 I L = some res) : E g 11 0 mX12_seat 120 [(0, .ref 149), (1, .int x1), (2, .int x2), (3, .long x3), (5, .int x5), (8, .int x8)] [.long y1, .long y0] (I, L) (.inl (some (.int res.1))) (res.2.1, res.2.2) := by
  unfold f_X12_seat_120 at h
  refine E_ladd 121 rfl dX12_seat_120 ?_
  refine E_lstore (lv' := [(6, .long (y0 + y1)), (0, .ref 149), (1, .int x1), (2, .int x2), (3, .long x3), (5, .int x5), (8, .int x8)]) 123 rfl dX12_seat_121 (Nat.le_of_ble_eq_true rfl) rfl ?_
  refine E_iinc (j := 6) (v := x8 + 1) (lv' := [(8, .int (x8 + 1)), (6, .long (y0 + y1)), (0, .ref 149), (1, .int x1), (2, .int x2), (3, .long x3), (5, .int x5)]) 126 rfl dX12_seat_123 rfl rfl (Nat.le_of_ble_eq_true rfl) rfl ?_
  refine E_goto 46 (by decide) dX12_seat_126 ?_
  refine E_sub (lv' := [(0, .ref 149), (1, .int x1), (2, .int x2), (3, .long x3), (5, .int x5), (6, .long (y0 + y1)), (8, .int (x8 + 1))]) [2, 3, 4, 5, 6, 1, 0] rfl ?_
  exact hk46 x1 x2 x3 x5 (y0 + y1) (x8 + 1) I L _ h
def f_X12_seat_89 (k46 : Int32 → Int32 → Int64 → Int32 → Int64 → Int32 → MI → ML → Option (Int32 × MI × ML)) (x1 : Int32) (x2 : Int32) (x3 : Int64) (x5 : Int32) (x8 : Int32) (y0 : Int64) (I : MI) (L : ML) : Option (Int32 × MI × ML) := f_X12_seat_120 k46 x1 x2 x3 x5 x8 y0 0 I L
set_option maxRecDepth 100000 in
theorem S_X12_seat_89 {g : Gx} {k46 : Int32 → Int32 → Int64 → Int32 → Int64 → Int32 → MI → ML → Option (Int32 × MI × ML)} (hk46 : ∀ (x1z : Int32) (x2z : Int32) (x3z : Int64) (x5z : Int32) (x6z : Int64) (x8z : Int32) (I : MI) (L : ML) (res : Int32 × MI × ML), k46 x1z x2z x3z x5z x6z x8z I L = some res → E g 11 0 mX12_seat 46 [(0, .ref 149), (1, .int x1z), (2, .int x2z), (3, .long x3z), (5, .int x5z), (6, .long x6z), (8, .int x8z)] [] (I, L) (.inl (some (.int res.1))) (res.2.1, res.2.2)) (x1 : Int32) (x2 : Int32) (x3 : Int64) (x5 : Int32) (x8 : Int32) (y0 : Int64) (I : MI) (L : ML) (res : Int32 × MI × ML) (h : f_X12_seat_89 k46 x1 x2 x3 x5 x8 y0 I L = some res) : E g 11 0 mX12_seat 89 [(0, .ref 149), (1, .int x1), (2, .int x2), (3, .long x3), (5, .int x5), (8, .int x8)] [.long y0] (I, L) (.inl (some (.int res.1))) (res.2.1, res.2.2) := by
  unfold f_X12_seat_89 at h
  refine E_lconst (v := 0) 90 rfl dX12_seat_89 (by decide) ?_
  refine E_goto 120 (by decide) dX12_seat_90 ?_
  refine E_sub (lv' := [(0, .ref 149), (1, .int x1), (2, .int x2), (3, .long x3), (5, .int x5), (8, .int x8)]) [0, 1, 2, 3, 4, 5] rfl ?_
  exact S_X12_seat_120 hk46 x1 x2 x3 x5 x8 y0 0 I L _ h
def f_X12_seat_46 (k31 : Int32 → Int32 → Int64 → Int32 → MI → ML → Option (Int32 × MI × ML)) : Nat → Int32 → Int32 → Int64 → Int32 → Int64 → Int32 → MI → ML → Option (Int32 × MI × ML)
  | 0, _, _, _, _, _, _, _, _ => none
  | n + 1, x1, x2, x3, x5, x6, x8, I, L => Option.bind (f_X12_noises I L) fun v1 => if v1 ≤ x8 then (if x2 < 0 then (f_X12_seat_143 k31 x1 x5 x6 I L) else (if x3 < x6 then (f_X12_seat_143 k31 x1 x5 x6 I L) else (f_X12_seat_149 k31 x1 x2 x3 x5 I L))) else (Option.bind (f_X12_allTitles x8 I L) fun w5 => if w5.1 = 0 then (f_X12_seat_89 (f_X12_seat_46 k31 n) x1 x2 x3 x5 x8 x6 w5.2.1 w5.2.2) else (Option.bind (f_X12_atOf x8 x5 w5.2.1 w5.2.2) fun v7 => Option.bind (f_X12_ofHeir x1 1 w5.2.1 w5.2.2) fun v8 => if v8 ≤ v7 then (Option.bind (f_X12_winterOf x8 1 w5.2.1 w5.2.2) fun v10 => Option.bind (f_X12_of x8 4 w5.2.1 w5.2.2) fun v11 => Option.bind (ldI w5.2.1 158 6 x1) fun v12 => Option.bind (dvL ((v10 * v11.toInt64) * v12.toInt64) w5.1) fun v13 => f_X12_seat_120 (f_X12_seat_46 k31 n) x1 x2 x3 x5 x8 x6 v13 w5.2.1 w5.2.2) else (f_X12_seat_89 (f_X12_seat_46 k31 n) x1 x2 x3 x5 x8 x6 w5.2.1 w5.2.2)))
set_option maxRecDepth 100000 in
theorem S_X12_seat_46 {g : Gx} {k31 : Int32 → Int32 → Int64 → Int32 → MI → ML → Option (Int32 × MI × ML)} (hk31 : ∀ (x1z : Int32) (x2z : Int32) (x3z : Int64) (x5z : Int32) (I : MI) (L : ML) (res : Int32 × MI × ML), k31 x1z x2z x3z x5z I L = some res → E g 11 0 mX12_seat 31 [(0, .ref 149), (1, .int x1z), (2, .int x2z), (3, .long x3z), (5, .int x5z)] [] (I, L) (.inl (some (.int res.1))) (res.2.1, res.2.2)) : ∀ (n : Nat) (x1 : Int32) (x2 : Int32) (x3 : Int64) (x5 : Int32) (x6 : Int64) (x8 : Int32) (I : MI) (L : ML) (res : Int32 × MI × ML), f_X12_seat_46 k31 n x1 x2 x3 x5 x6 x8 I L = some res → E g 11 0 mX12_seat 46 [(0, .ref 149), (1, .int x1), (2, .int x2), (3, .long x3), (5, .int x5), (6, .long x6), (8, .int x8)] [] (I, L) (.inl (some (.int res.1))) (res.2.1, res.2.2) := by
  intro n
  induction n with
  | zero =>
    intros
    rename_i h
    cases h
  | succ n ih =>
    intro x1 x2 x3 x5 x6 x8 I L res h
    rw [f_X12_seat_46] at h
    refine E_iload 48 rfl dX12_seat_46 6 rfl ?_
    refine E_aload_n 49 rfl dX12_seat_48 rfl 0 rfl ?_
    obtain ⟨v1, hv1, h⟩ := Option.bind_eq_some_iff.mp h
    refine E_cV1 (As := []) 52 rfl dX12_seat_49 shc_149 ck_X12_67 cv_X12_noises rfl (by decide) (Nat.le_of_ble_eq_true rfl) (C_X12_noises (g := g) hv1) rfl ?_
    refine E_icmp_ge 129 55 (by decide) rfl dX12_seat_52 (fun c2 => ?_) (fun c2 => ?_)
    · rw [if_pos c2] at h
      refine E_iload_n 130 rfl dX12_seat_129 rfl 2 rfl ?_
      refine E_if_lt 143 133 (by decide) rfl dX12_seat_130 (fun c3 => ?_) (fun c3 => ?_)
      · rw [if_pos c3] at h
        refine E_sub (lv' := [(0, .ref 149), (1, .int x1), (5, .int x5), (6, .long x6)]) [0, 1, 4, 5] rfl ?_
        exact S_X12_seat_143 hk31 x1 x5 x6 I L _ h
      · rw [if_neg c3] at h
        refine E_lload 135 rfl dX12_seat_133 5 rfl ?_
        refine E_lload_n 136 rfl dX12_seat_135 rfl 3 rfl ?_
        refine E_lc_gt 143 137 140 (by decide) rfl rfl dX12_seat_136 dX12_seat_137 (fun c4 => ?_) (fun c4 => ?_)
        · rw [if_pos c4] at h
          refine E_sub (lv' := [(0, .ref 149), (1, .int x1), (5, .int x5), (6, .long x6)]) [0, 1, 4, 5] rfl ?_
          exact S_X12_seat_143 hk31 x1 x5 x6 I L _ h
        · rw [if_neg c4] at h
          refine E_goto 149 (by decide) dX12_seat_140 ?_
          refine E_sub (lv' := [(0, .ref 149), (1, .int x1), (2, .int x2), (3, .long x3), (5, .int x5)]) [0, 1, 2, 3, 4] rfl ?_
          exact S_X12_seat_149 hk31 x1 x2 x3 x5 I L _ h
    · rw [if_neg c2] at h
      refine E_aload_n 56 rfl dX12_seat_55 rfl 0 rfl ?_
      refine E_iload 58 rfl dX12_seat_56 6 rfl ?_
      obtain ⟨w5, hw5, h⟩ := Option.bind_eq_some_iff.mp h
      refine E_cV1 (As := [.int x8]) 61 rfl dX12_seat_58 shc_149 ck_X12_285 cv_X12_allTitles rfl (by decide) (Nat.le_of_ble_eq_true rfl) (C_X12_allTitles (g := g) hw5) rfl ?_
      refine E_lstore (lv' := [(9, .long w5.1), (0, .ref 149), (1, .int x1), (2, .int x2), (3, .long x3), (5, .int x5), (6, .long x6), (8, .int x8)]) 63 rfl dX12_seat_61 (Nat.le_of_ble_eq_true rfl) rfl ?_
      refine E_lload 65 rfl dX12_seat_63 6 rfl ?_
      refine E_lload 67 rfl dX12_seat_65 0 rfl ?_
      refine E_lconst (v := 0) 68 rfl dX12_seat_67 (by decide) ?_
      refine E_lc_eq 89 69 72 (by decide) rfl rfl dX12_seat_68 dX12_seat_69 (fun c6 => ?_) (fun c6 => ?_)
      · rw [if_pos c6] at h
        refine E_sub (lv' := [(0, .ref 149), (1, .int x1), (2, .int x2), (3, .long x3), (5, .int x5), (8, .int x8)]) [1, 2, 3, 4, 5, 7] rfl ?_
        exact S_X12_seat_89 ih x1 x2 x3 x5 x8 x6 w5.2.1 w5.2.2 _ h
      · rw [if_neg c6] at h
        refine E_aload_n 73 rfl dX12_seat_72 rfl 1 rfl ?_
        refine E_iload 75 rfl dX12_seat_73 7 rfl ?_
        refine E_iload 77 rfl dX12_seat_75 5 rfl ?_
        obtain ⟨v7, hv7, h⟩ := Option.bind_eq_some_iff.mp h
        refine E_cV1 (As := [.int x8, .int x5]) 80 rfl dX12_seat_77 shc_149 ck_X12_269 cv_X12_atOf rfl (by decide) (Nat.le_of_ble_eq_true rfl) (C_X12_atOf (g := g) hv7) rfl ?_
        refine E_aload_n 81 rfl dX12_seat_80 rfl 1 rfl ?_
        refine E_iload_n 82 rfl dX12_seat_81 rfl 2 rfl ?_
        refine E_iconst (v := 1) 83 rfl dX12_seat_82 (by decide) ?_
        obtain ⟨v8, hv8, h⟩ := Option.bind_eq_some_iff.mp h
        refine E_cV1 (As := [.int x1, .int 1]) 86 rfl dX12_seat_83 shc_149 ck_X12_266 cv_X12_ofHeir rfl (by decide) (Nat.le_of_ble_eq_true rfl) (C_X12_ofHeir (g := g) hv8) rfl ?_
        refine E_icmp_ge 93 89 (by decide) rfl dX12_seat_86 (fun c9 => ?_) (fun c9 => ?_)
        · rw [if_pos c9] at h
          refine E_aload_n 94 rfl dX12_seat_93 rfl 1 rfl ?_
          refine E_iload 96 rfl dX12_seat_94 7 rfl ?_
          refine E_iconst (v := 1) 97 rfl dX12_seat_96 (by decide) ?_
          obtain ⟨v10, hv10, h⟩ := Option.bind_eq_some_iff.mp h
          refine E_cV1 (As := [.int x8, .int 1]) 100 rfl dX12_seat_97 shc_149 ck_X12_344 cv_X12_winterOf rfl (by decide) (Nat.le_of_ble_eq_true rfl) (C_X12_winterOf (g := g) hv10) rfl ?_
          refine E_aload_n 101 rfl dX12_seat_100 rfl 1 rfl ?_
          refine E_iload 103 rfl dX12_seat_101 7 rfl ?_
          refine E_iconst (v := 4) 104 rfl dX12_seat_103 (by decide) ?_
          obtain ⟨v11, hv11, h⟩ := Option.bind_eq_some_iff.mp h
          refine E_cV1 (As := [.int x8, .int 4]) 107 rfl dX12_seat_104 shc_149 ck_X12_260 cv_X12_of rfl (by decide) (Nat.le_of_ble_eq_true rfl) (C_X12_of (g := g) hv11) rfl ?_
          refine E_i2l 108 rfl dX12_seat_107 ?_
          refine E_lmul 109 rfl dX12_seat_108 ?_
          refine E_aload_n 110 rfl dX12_seat_109 rfl 1 rfl ?_
          refine E_gR 158 113 rfl dX12_seat_110 shc_149 fl_X12_42 rfl (by decide) (by decide) ?_
          refine E_iload_n 114 rfl dX12_seat_113 rfl 2 rfl ?_
          obtain ⟨v12, hv12, h⟩ := Option.bind_eq_some_iff.mp h
          refine E_ldI 115 rfl dX12_seat_114 shc_158 hv12 ?_
          refine E_i2l 116 rfl dX12_seat_115 ?_
          refine E_lmul 117 rfl dX12_seat_116 ?_
          refine E_lload 119 rfl dX12_seat_117 0 rfl ?_
          obtain ⟨v13, hv13, h⟩ := Option.bind_eq_some_iff.mp h
          refine E_dvL 120 rfl dX12_seat_119 hv13 ?_
          refine E_sub (lv' := [(0, .ref 149), (1, .int x1), (2, .int x2), (3, .long x3), (5, .int x5), (8, .int x8)]) [1, 2, 3, 4, 5, 7] rfl ?_
          exact S_X12_seat_120 ih x1 x2 x3 x5 x8 x6 v13 w5.2.1 w5.2.2 _ h
        · rw [if_neg c9] at h
          refine E_sub (lv' := [(0, .ref 149), (1, .int x1), (2, .int x2), (3, .long x3), (5, .int x5), (8, .int x8)]) [1, 2, 3, 4, 5, 7] rfl ?_
          exact S_X12_seat_89 ih x1 x2 x3 x5 x8 x6 w5.2.1 w5.2.2 _ h
def f_X12_seat_31 : Nat → Int32 → Int32 → Int64 → Int32 → MI → ML → Option (Int32 × MI × ML)
  | 0, _, _, _, _, _, _ => none
  | n + 1, x1, x2, x3, x5, I, L => Option.bind (f_X12_rooms I L) fun v1 => if v1 ≤ x5 then (some (x2, I, L)) else (f_X12_seat_46 (f_X12_seat_31 n) FU x1 x2 x3 x5 0 0 I L)
set_option maxRecDepth 100000 in
theorem S_X12_seat_31 {g : Gx} : ∀ (n : Nat) (x1 : Int32) (x2 : Int32) (x3 : Int64) (x5 : Int32) (I : MI) (L : ML) (res : Int32 × MI × ML), f_X12_seat_31 n x1 x2 x3 x5 I L = some res → E g 11 0 mX12_seat 31 [(0, .ref 149), (1, .int x1), (2, .int x2), (3, .long x3), (5, .int x5)] [] (I, L) (.inl (some (.int res.1))) (res.2.1, res.2.2) := by
  intro n
  induction n with
  | zero =>
    intros
    rename_i h
    cases h
  | succ n ih =>
    intro x1 x2 x3 x5 I L res h
    rw [f_X12_seat_31] at h
    refine E_iload 33 rfl dX12_seat_31 4 rfl ?_
    refine E_aload_n 34 rfl dX12_seat_33 rfl 0 rfl ?_
    obtain ⟨v1, hv1, h⟩ := Option.bind_eq_some_iff.mp h
    refine E_cV1 (As := []) 37 rfl dX12_seat_34 shc_149 ck_X12_56 cv_X12_rooms rfl (by decide) (Nat.le_of_ble_eq_true rfl) (C_X12_rooms (g := g) hv1) rfl ?_
    refine E_icmp_ge 155 40 (by decide) rfl dX12_seat_37 (fun c2 => ?_) (fun c2 => ?_)
    · rw [if_pos c2] at h
      refine E_iload_n 156 rfl dX12_seat_155 rfl 2 rfl ?_
      cases h
      exact E_iret rfl dX12_seat_156
    · rw [if_neg c2] at h
      refine E_lconst (v := 0) 41 rfl dX12_seat_40 (by decide) ?_
      refine E_lstore (lv' := [(6, .long 0), (0, .ref 149), (1, .int x1), (2, .int x2), (3, .long x3), (5, .int x5)]) 43 rfl dX12_seat_41 (Nat.le_of_ble_eq_true rfl) rfl ?_
      refine E_iconst (v := 0) 44 rfl dX12_seat_43 (by decide) ?_
      refine E_istore (lv' := [(8, .int 0), (6, .long 0), (0, .ref 149), (1, .int x1), (2, .int x2), (3, .long x3), (5, .int x5)]) 46 rfl dX12_seat_44 (Nat.le_of_ble_eq_true rfl) rfl ?_
      refine E_sub (lv' := [(0, .ref 149), (1, .int x1), (2, .int x2), (3, .long x3), (5, .int x5), (6, .long 0), (8, .int 0)]) [2, 3, 4, 5, 6, 1, 0] rfl ?_
      exact S_X12_seat_46 ih FU x1 x2 x3 x5 0 0 I L _ h
def f_X12_seat (x1 : Int32) (I : MI) (L : ML) : Option (Int32 × MI × ML) := Option.bind (pfI I 149 0 0) fun I1 => Option.bind (f_X12_noHeir x1 I1 L) fun v2 => Option.bind (f_X12_throwsIf v2 1 I1 L) fun w3 => if w3.1 = true then (some (0, w3.2.1, w3.2.2)) else (Option.bind (f_X12_spreads w3.2.1 w3.2.2) fun w5 => f_X12_seat_31 FU x1 ((-1)) 0 0 w5.1 w5.2)
set_option maxRecDepth 100000 in
theorem S_X12_seat {g : Gx} (x1 : Int32) (I : MI) (L : ML) (res : Int32 × MI × ML) (h : f_X12_seat x1 I L = some res) : E g 11 0 mX12_seat 0 [(0, .ref 149), (1, .int x1)] [] (I, L) (.inl (some (.int res.1))) (res.2.1, res.2.2) := by
  unfold f_X12_seat at h
  refine E_aload_n 1 rfl dX12_seat_0 rfl 0 rfl ?_
  refine E_iconst (v := 0) 2 rfl dX12_seat_1 (by decide) ?_
  obtain ⟨I1, hI1, h⟩ := Option.bind_eq_some_iff.mp h
  refine E_pfI 5 rfl dX12_seat_2 shc_149 fl_X12_3 rfl hI1 ?_
  refine E_aload_n 6 rfl dX12_seat_5 rfl 0 rfl ?_
  refine E_aload_n 7 rfl dX12_seat_6 rfl 0 rfl ?_
  refine E_iload_n 8 rfl dX12_seat_7 rfl 1 rfl ?_
  obtain ⟨v2, hv2, h⟩ := Option.bind_eq_some_iff.mp h
  refine E_cV1 (As := [.int x1]) 11 rfl dX12_seat_8 shc_149 ck_X12_301 cv_X12_noHeir rfl (by decide) (Nat.le_of_ble_eq_true rfl) (C_X12_noHeir (g := g) hv2) rfl ?_
  refine E_iconst (v := 1) 12 rfl dX12_seat_11 (by decide) ?_
  obtain ⟨w3, hw3, h⟩ := Option.bind_eq_some_iff.mp h
  refine E_cV1 (As := [.int (bI v2), .int 1]) 15 rfl dX12_seat_12 shc_149 ck_X12_245 cv_X12_throwsIf rfl (by decide) (Nat.le_of_ble_eq_true rfl) (C_X12_throwsIf (g := g) hw3) rfl ?_
  refine E_if_eqB 20 18 (by decide) rfl dX12_seat_15 (fun c4 => ?_) (fun c4 => ?_)
  · rw [if_neg (by rw [c4]; decide)] at h
    refine E_aload_n 21 rfl dX12_seat_20 rfl 0 rfl ?_
    obtain ⟨w5, hw5, h⟩ := Option.bind_eq_some_iff.mp h
    refine E_cV0 (As := []) 24 rfl dX12_seat_21 shc_149 ck_X12_298 cv_X12_spreads rfl (by decide) (Nat.le_of_ble_eq_true rfl) (C_X12_spreads (g := g) hw5) rfl ?_
    refine E_iconst (v := (-1)) 25 rfl dX12_seat_24 (by decide) ?_
    refine E_istore_n (lv' := [(2, .int ((-1))), (0, .ref 149), (1, .int x1)]) 26 rfl dX12_seat_25 rfl (Nat.le_of_ble_eq_true rfl) rfl ?_
    refine E_lconst (v := 0) 27 rfl dX12_seat_26 (by decide) ?_
    refine E_lstore_n (lv' := [(3, .long 0), (2, .int ((-1))), (0, .ref 149), (1, .int x1)]) 28 rfl dX12_seat_27 rfl (Nat.le_of_ble_eq_true rfl) rfl ?_
    refine E_iconst (v := 0) 29 rfl dX12_seat_28 (by decide) ?_
    refine E_istore (lv' := [(5, .int 0), (3, .long 0), (2, .int ((-1))), (0, .ref 149), (1, .int x1)]) 31 rfl dX12_seat_29 (Nat.le_of_ble_eq_true rfl) rfl ?_
    refine E_sub (lv' := [(0, .ref 149), (1, .int x1), (2, .int ((-1))), (3, .long 0), (5, .int 0)]) [3, 4, 2, 1, 0] rfl ?_
    exact S_X12_seat_31 FU x1 ((-1)) 0 0 w5.1 w5.2 _ h
  · rw [if_pos c4] at h
    refine E_iconst (v := 0) 19 rfl dX12_seat_18 (by decide) ?_
    cases h
    exact E_iret rfl dX12_seat_19
theorem C_X12_seat {g : Gx} {x1 : Int32} {I : MI} {L : ML} {res : Int32 × MI × ML} (h : f_X12_seat x1 I L = some res) : Ent g 11 0 mX12_seat [.ref 149, .int x1] (I, L) (.inl (some (.int res.1))) (res.2.1, res.2.2) := Ent_of (by decide +kernel) (Nat.le_of_ble_eq_true rfl) (S_X12_seat x1 I L _ h)
def f_X12_valueOf_5 : Nat → Int32 → Int64 → Int32 → MI → ML → Option (Int64 × MI × ML)
  | 0, _, _, _, _, _ => none
  | n + 1, x1, x2, x4, I, L => Option.bind (f_X12_noises I L) fun v1 => if v1 ≤ x4 then (some (x2, I, L)) else (Option.bind (f_X12_dueOf x4 100 I L) fun v3 => Option.bind (f_X12_parts x4 v3 I L) fun w4 => Option.bind (ldL w4.2.2 159 6 x1) fun v5 => f_X12_valueOf_5 n x1 (x2 + v5) (x4 + 1) w4.2.1 w4.2.2)
set_option maxRecDepth 100000 in
theorem S_X12_valueOf_5 {g : Gx} : ∀ (n : Nat) (x1 : Int32) (x2 : Int64) (x4 : Int32) (I : MI) (L : ML) (res : Int64 × MI × ML), f_X12_valueOf_5 n x1 x2 x4 I L = some res → E g 12 0 mX12_valueOf 5 [(0, .ref 149), (1, .int x1), (2, .long x2), (4, .int x4)] [] (I, L) (.inl (some (.long res.1))) (res.2.1, res.2.2) := by
  intro n
  induction n with
  | zero =>
    intros
    rename_i h
    cases h
  | succ n ih =>
    intro x1 x2 x4 I L res h
    rw [f_X12_valueOf_5] at h
    refine E_iload 7 rfl dX12_valueOf_5 3 rfl ?_
    refine E_aload_n 8 rfl dX12_valueOf_7 rfl 0 rfl ?_
    obtain ⟨v1, hv1, h⟩ := Option.bind_eq_some_iff.mp h
    refine E_cV1 (As := []) 11 rfl dX12_valueOf_8 shc_149 ck_X12_67 cv_X12_noises rfl (by decide) (Nat.le_of_ble_eq_true rfl) (C_X12_noises (g := g) hv1) rfl ?_
    refine E_icmp_ge 44 14 (by decide) rfl dX12_valueOf_11 (fun c2 => ?_) (fun c2 => ?_)
    · rw [if_pos c2] at h
      refine E_lload_n 45 rfl dX12_valueOf_44 rfl 2 rfl ?_
      cases h
      exact E_lret rfl dX12_valueOf_45
    · rw [if_neg c2] at h
      refine E_aload_n 15 rfl dX12_valueOf_14 rfl 0 rfl ?_
      refine E_iload 17 rfl dX12_valueOf_15 3 rfl ?_
      refine E_aload_n 18 rfl dX12_valueOf_17 rfl 0 rfl ?_
      refine E_iload 20 rfl dX12_valueOf_18 3 rfl ?_
      refine E_bipush (v := 100) 22 rfl dX12_valueOf_20 (by decide) ?_
      obtain ⟨v3, hv3, h⟩ := Option.bind_eq_some_iff.mp h
      refine E_cV1 (As := [.int x4, .int 100]) 25 rfl dX12_valueOf_22 shc_149 ck_X12_351 cv_X12_dueOf rfl (by decide) (Nat.le_of_ble_eq_true rfl) (C_X12_dueOf (g := g) hv3) rfl ?_
      obtain ⟨w4, hw4, h⟩ := Option.bind_eq_some_iff.mp h
      refine E_cV1 (As := [.int x4, .long v3]) 28 rfl dX12_valueOf_25 shc_149 ck_X12_308 cv_X12_parts rfl (by decide) (Nat.le_of_ble_eq_true rfl) (C_X12_parts (g := g) hw4) rfl ?_
      refine E_pop2 29 rfl dX12_valueOf_28 rfl ?_
      refine E_lload_n 30 rfl dX12_valueOf_29 rfl 2 rfl ?_
      refine E_aload_n 31 rfl dX12_valueOf_30 rfl 0 rfl ?_
      refine E_gR 159 34 rfl dX12_valueOf_31 shc_149 fl_X12_45 rfl (by decide) (by decide) ?_
      refine E_iload_n 35 rfl dX12_valueOf_34 rfl 1 rfl ?_
      obtain ⟨v5, hv5, h⟩ := Option.bind_eq_some_iff.mp h
      refine E_ldL 36 rfl dX12_valueOf_35 shc_159 hv5 ?_
      refine E_ladd 37 rfl dX12_valueOf_36 ?_
      refine E_lstore_n (lv' := [(2, .long (x2 + v5)), (0, .ref 149), (1, .int x1), (4, .int x4)]) 38 rfl dX12_valueOf_37 rfl (Nat.le_of_ble_eq_true rfl) rfl ?_
      refine E_iinc (j := 3) (v := x4 + 1) (lv' := [(4, .int (x4 + 1)), (2, .long (x2 + v5)), (0, .ref 149), (1, .int x1)]) 41 rfl dX12_valueOf_38 rfl rfl (Nat.le_of_ble_eq_true rfl) rfl ?_
      refine E_goto 5 (by decide) dX12_valueOf_41 ?_
      refine E_sub (lv' := [(0, .ref 149), (1, .int x1), (2, .long (x2 + v5)), (4, .int (x4 + 1))]) [2, 3, 1, 0] rfl ?_
      exact ih x1 (x2 + v5) (x4 + 1) w4.2.1 w4.2.2 _ h
def f_X12_valueOf (x1 : Int32) (I : MI) (L : ML) : Option (Int64 × MI × ML) := f_X12_valueOf_5 FU x1 0 0 I L
set_option maxRecDepth 100000 in
theorem S_X12_valueOf {g : Gx} (x1 : Int32) (I : MI) (L : ML) (res : Int64 × MI × ML) (h : f_X12_valueOf x1 I L = some res) : E g 12 0 mX12_valueOf 0 [(0, .ref 149), (1, .int x1)] [] (I, L) (.inl (some (.long res.1))) (res.2.1, res.2.2) := by
  unfold f_X12_valueOf at h
  refine E_lconst (v := 0) 1 rfl dX12_valueOf_0 (by decide) ?_
  refine E_lstore_n (lv' := [(2, .long 0), (0, .ref 149), (1, .int x1)]) 2 rfl dX12_valueOf_1 rfl (Nat.le_of_ble_eq_true rfl) rfl ?_
  refine E_iconst (v := 0) 3 rfl dX12_valueOf_2 (by decide) ?_
  refine E_istore (lv' := [(4, .int 0), (2, .long 0), (0, .ref 149), (1, .int x1)]) 5 rfl dX12_valueOf_3 (Nat.le_of_ble_eq_true rfl) rfl ?_
  refine E_sub (lv' := [(0, .ref 149), (1, .int x1), (2, .long 0), (4, .int 0)]) [2, 3, 1, 0] rfl ?_
  exact S_X12_valueOf_5 FU x1 0 0 I L _ h
theorem C_X12_valueOf {g : Gx} {x1 : Int32} {I : MI} {L : ML} {res : Int64 × MI × ML} (h : f_X12_valueOf x1 I L = some res) : Ent g 12 0 mX12_valueOf [.ref 149, .int x1] (I, L) (.inl (some (.long res.1))) (res.2.1, res.2.2) := Ent_of (by decide +kernel) (Nat.le_of_ble_eq_true rfl) (S_X12_valueOf x1 I L _ h)
def f_X12_value (x1 : Int32) (I : MI) (L : ML) : Option (Int64 × MI × ML) := Option.bind (pfI I 149 0 0) fun I1 => Option.bind (f_X12_noHeir x1 I1 L) fun v2 => Option.bind (f_X12_throwsIf v2 1 I1 L) fun w3 => if w3.1 = true then (some (0, w3.2.1, w3.2.2)) else (Option.bind (f_X12_spreads w3.2.1 w3.2.2) fun w5 => Option.bind (f_X12_valueOf x1 w5.1 w5.2) fun w6 => some (w6.1, w6.2.1, w6.2.2))
set_option maxRecDepth 100000 in
theorem S_X12_value {g : Gx} (x1 : Int32) (I : MI) (L : ML) (res : Int64 × MI × ML) (h : f_X12_value x1 I L = some res) : E g 13 0 mX12_value 0 [(0, .ref 149), (1, .int x1)] [] (I, L) (.inl (some (.long res.1))) (res.2.1, res.2.2) := by
  unfold f_X12_value at h
  refine E_aload_n 1 rfl dX12_value_0 rfl 0 rfl ?_
  refine E_iconst (v := 0) 2 rfl dX12_value_1 (by decide) ?_
  obtain ⟨I1, hI1, h⟩ := Option.bind_eq_some_iff.mp h
  refine E_pfI 5 rfl dX12_value_2 shc_149 fl_X12_3 rfl hI1 ?_
  refine E_aload_n 6 rfl dX12_value_5 rfl 0 rfl ?_
  refine E_aload_n 7 rfl dX12_value_6 rfl 0 rfl ?_
  refine E_iload_n 8 rfl dX12_value_7 rfl 1 rfl ?_
  obtain ⟨v2, hv2, h⟩ := Option.bind_eq_some_iff.mp h
  refine E_cV1 (As := [.int x1]) 11 rfl dX12_value_8 shc_149 ck_X12_301 cv_X12_noHeir rfl (by decide) (Nat.le_of_ble_eq_true rfl) (C_X12_noHeir (g := g) hv2) rfl ?_
  refine E_iconst (v := 1) 12 rfl dX12_value_11 (by decide) ?_
  obtain ⟨w3, hw3, h⟩ := Option.bind_eq_some_iff.mp h
  refine E_cV1 (As := [.int (bI v2), .int 1]) 15 rfl dX12_value_12 shc_149 ck_X12_245 cv_X12_throwsIf rfl (by decide) (Nat.le_of_ble_eq_true rfl) (C_X12_throwsIf (g := g) hw3) rfl ?_
  refine E_if_eqB 20 18 (by decide) rfl dX12_value_15 (fun c4 => ?_) (fun c4 => ?_)
  · rw [if_neg (by rw [c4]; decide)] at h
    refine E_aload_n 21 rfl dX12_value_20 rfl 0 rfl ?_
    obtain ⟨w5, hw5, h⟩ := Option.bind_eq_some_iff.mp h
    refine E_cV0 (As := []) 24 rfl dX12_value_21 shc_149 ck_X12_298 cv_X12_spreads rfl (by decide) (Nat.le_of_ble_eq_true rfl) (C_X12_spreads (g := g) hw5) rfl ?_
    refine E_aload_n 25 rfl dX12_value_24 rfl 0 rfl ?_
    refine E_iload_n 26 rfl dX12_value_25 rfl 1 rfl ?_
    obtain ⟨w6, hw6, h⟩ := Option.bind_eq_some_iff.mp h
    refine E_cV1 (As := [.int x1]) 29 rfl dX12_value_26 shc_149 ck_X12_370 cv_X12_valueOf rfl (by decide) (Nat.le_of_ble_eq_true rfl) (C_X12_valueOf (g := g) hw6) rfl ?_
    cases h
    exact E_lret rfl dX12_value_29
  · rw [if_pos c4] at h
    refine E_lconst (v := 0) 19 rfl dX12_value_18 (by decide) ?_
    cases h
    exact E_lret rfl dX12_value_19
theorem C_X12_value {g : Gx} {x1 : Int32} {I : MI} {L : ML} {res : Int64 × MI × ML} (h : f_X12_value x1 I L = some res) : Ent g 13 0 mX12_value [.ref 149, .int x1] (I, L) (.inl (some (.long res.1))) (res.2.1, res.2.2) := Ent_of (by decide +kernel) (Nat.le_of_ble_eq_true rfl) (S_X12_value x1 I L _ h)
def f_X12_sale_86 (y0 : Int64) (I : MI) (L : ML) : Option (Int64 × MI × ML) := some (y0, I, L)
set_option maxRecDepth 100000 in
theorem S_X12_sale_86 {g : Gx} (y0 : Int64) (I : MI) (L : ML) (res : Int64 × MI × ML) (h : f_X12_sale_86 y0 I L = some res) : E g 13 0 mX12_sale 86 [] [.long y0] (I, L) (.inl (some (.long res.1))) (res.2.1, res.2.2) := by
  unfold f_X12_sale_86 at h
  cases h
  exact E_lret rfl dX12_sale_86
def f_X12_sale_77 (x2 : Int32) (I : MI) (L : ML) : Option (Int64 × MI × ML) := f_X12_sale_86 x2.toInt64 I L
set_option maxRecDepth 100000 in
theorem S_X12_sale_77 {g : Gx} (x2 : Int32) (I : MI) (L : ML) (res : Int64 × MI × ML) (h : f_X12_sale_77 x2 I L = some res) : E g 13 0 mX12_sale 77 [(2, .int x2)] [] (I, L) (.inl (some (.long res.1))) (res.2.1, res.2.2) := by
  unfold f_X12_sale_77 at h
  refine E_iload_n 78 rfl dX12_sale_77 rfl 0 rfl ?_
  refine E_i2l 79 rfl dX12_sale_78 ?_
  refine E_goto 86 (by decide) dX12_sale_79 ?_
  refine E_sub (lv' := []) [] rfl ?_
  exact S_X12_sale_86 x2.toInt64 I L _ h
def f_X12_sale_63 (k19 : Bool → Int32 → Int64 → Int64 → Int32 → MI → ML → Option (Int64 × MI × ML)) (x1 : Bool) (x2 : Int32) (x3 : Int64) (x5 : Int64) (x7 : Int32) (I : MI) (L : ML) : Option (Int64 × MI × ML) := k19 x1 x2 x3 x5 (x7 + 1) I L
set_option maxRecDepth 100000 in
theorem S_X12_sale_63 {g : Gx} {k19 : Bool → Int32 → Int64 → Int64 → Int32 → MI → ML → Option (Int64 × MI × ML)} (hk19 : ∀ (x1z : Bool) (x2z : Int32) (x3z : Int64) (x5z : Int64) (x7z : Int32) (I : MI) (L : ML) (res : Int64 × MI × ML), k19 x1z x2z x3z x5z x7z I L = some res → E g 13 0 mX12_sale 19 [(0, .ref 149), (1, .int (bI x1z)), (2, .int x2z), (3, .long x3z), (5, .long x5z), (7, .int x7z)] [] (I, L) (.inl (some (.long res.1))) (res.2.1, res.2.2)) (x1 : Bool) (x2 : Int32) (x3 : Int64) (x5 : Int64) (x7 : Int32) (I : MI) (L : ML) (res : Int64 × MI × ML) (h : f_X12_sale_63 k19 x1 x2 x3 x5 x7 I L = some res) : E g 13 0 mX12_sale 63 [(0, .ref 149), (1, .int (bI x1)), (2, .int x2), (3, .long x3), (5, .long x5), (7, .int x7)] [] (I, L) (.inl (some (.long res.1))) (res.2.1, res.2.2) := by
  unfold f_X12_sale_63 at h
  refine E_iinc (j := 5) (v := x7 + 1) (lv' := [(7, .int (x7 + 1)), (0, .ref 149), (1, .int (bI x1)), (2, .int x2), (3, .long x3), (5, .long x5)]) 66 rfl dX12_sale_63 rfl rfl (Nat.le_of_ble_eq_true rfl) rfl ?_
  refine E_goto 19 (by decide) dX12_sale_66 ?_
  refine E_sub (lv' := [(0, .ref 149), (1, .int (bI x1)), (2, .int x2), (3, .long x3), (5, .long x5), (7, .int (x7 + 1))]) [1, 2, 3, 4, 5, 0] rfl ?_
  exact hk19 x1 x2 x3 x5 (x7 + 1) I L _ h
def f_X12_sale_57 (k19 : Bool → Int32 → Int64 → Int64 → Int32 → MI → ML → Option (Int64 × MI × ML)) (x1 : Bool) (x5 : Int64) (x7 : Int32) (x8 : Int64) (I : MI) (L : ML) : Option (Int64 × MI × ML) := f_X12_sale_63 k19 x1 x7 x8 x5 x7 I L
set_option maxRecDepth 100000 in
theorem S_X12_sale_57 {g : Gx} {k19 : Bool → Int32 → Int64 → Int64 → Int32 → MI → ML → Option (Int64 × MI × ML)} (hk19 : ∀ (x1z : Bool) (x2z : Int32) (x3z : Int64) (x5z : Int64) (x7z : Int32) (I : MI) (L : ML) (res : Int64 × MI × ML), k19 x1z x2z x3z x5z x7z I L = some res → E g 13 0 mX12_sale 19 [(0, .ref 149), (1, .int (bI x1z)), (2, .int x2z), (3, .long x3z), (5, .long x5z), (7, .int x7z)] [] (I, L) (.inl (some (.long res.1))) (res.2.1, res.2.2)) (x1 : Bool) (x5 : Int64) (x7 : Int32) (x8 : Int64) (I : MI) (L : ML) (res : Int64 × MI × ML) (h : f_X12_sale_57 k19 x1 x5 x7 x8 I L = some res) : E g 13 0 mX12_sale 57 [(0, .ref 149), (1, .int (bI x1)), (5, .long x5), (7, .int x7), (8, .long x8)] [] (I, L) (.inl (some (.long res.1))) (res.2.1, res.2.2) := by
  unfold f_X12_sale_57 at h
  refine E_iload 59 rfl dX12_sale_57 3 rfl ?_
  refine E_istore_n (lv' := [(2, .int x7), (0, .ref 149), (1, .int (bI x1)), (5, .long x5), (7, .int x7), (8, .long x8)]) 60 rfl dX12_sale_59 rfl (Nat.le_of_ble_eq_true rfl) rfl ?_
  refine E_lload 62 rfl dX12_sale_60 5 rfl ?_
  refine E_lstore_n (lv' := [(3, .long x8), (2, .int x7), (0, .ref 149), (1, .int (bI x1)), (5, .long x5), (7, .int x7), (8, .long x8)]) 63 rfl dX12_sale_62 rfl (Nat.le_of_ble_eq_true rfl) rfl ?_
  refine E_sub (lv' := [(0, .ref 149), (1, .int (bI x1)), (2, .int x7), (3, .long x8), (5, .long x5), (7, .int x7)]) [2, 3, 1, 0, 4, 5] rfl ?_
  exact S_X12_sale_63 hk19 x1 x7 x8 x5 x7 I L _ h
def f_X12_sale_19 : Nat → Bool → Int32 → Int64 → Int64 → Int32 → MI → ML → Option (Int64 × MI × ML)
  | 0, _, _, _, _, _, _, _ => none
  | n + 1, x1, x2, x3, x5, x7, I, L => Option.bind (f_X12_heirs I L) fun v1 => if v1 ≤ x7 then (if x2 < 0 then (f_X12_sale_77 x2 I L) else (if x1 = true then (f_X12_sale_86 (x5 - x3) I L) else (f_X12_sale_77 x2 I L))) else (Option.bind (f_X12_valueOf x7 I L) fun w5 => if x2 < 0 then (f_X12_sale_57 (f_X12_sale_19 n) x1 (x5 + w5.1) x7 w5.1 w5.2.1 w5.2.2) else (if x3 < w5.1 then (f_X12_sale_57 (f_X12_sale_19 n) x1 (x5 + w5.1) x7 w5.1 w5.2.1 w5.2.2) else (f_X12_sale_63 (f_X12_sale_19 n) x1 x2 x3 (x5 + w5.1) x7 w5.2.1 w5.2.2)))
set_option maxRecDepth 100000 in
theorem S_X12_sale_19 {g : Gx} : ∀ (n : Nat) (x1 : Bool) (x2 : Int32) (x3 : Int64) (x5 : Int64) (x7 : Int32) (I : MI) (L : ML) (res : Int64 × MI × ML), f_X12_sale_19 n x1 x2 x3 x5 x7 I L = some res → E g 13 0 mX12_sale 19 [(0, .ref 149), (1, .int (bI x1)), (2, .int x2), (3, .long x3), (5, .long x5), (7, .int x7)] [] (I, L) (.inl (some (.long res.1))) (res.2.1, res.2.2) := by
  intro n
  induction n with
  | zero =>
    intros
    rename_i h
    cases h
  | succ n ih =>
    intro x1 x2 x3 x5 x7 I L res h
    rw [f_X12_sale_19] at h
    refine E_iload 21 rfl dX12_sale_19 5 rfl ?_
    refine E_aload_n 22 rfl dX12_sale_21 rfl 0 rfl ?_
    obtain ⟨v1, hv1, h⟩ := Option.bind_eq_some_iff.mp h
    refine E_cV1 (As := []) 25 rfl dX12_sale_22 shc_149 ck_X12_64 cv_X12_heirs rfl (by decide) (Nat.le_of_ble_eq_true rfl) (C_X12_heirs (g := g) hv1) rfl ?_
    refine E_icmp_ge 69 28 (by decide) rfl dX12_sale_25 (fun c2 => ?_) (fun c2 => ?_)
    · rw [if_pos c2] at h
      refine E_iload_n 70 rfl dX12_sale_69 rfl 2 rfl ?_
      refine E_if_lt 77 73 (by decide) rfl dX12_sale_70 (fun c3 => ?_) (fun c3 => ?_)
      · rw [if_pos c3] at h
        refine E_sub (lv' := [(2, .int x2)]) [2] rfl ?_
        exact S_X12_sale_77 x2 I L _ h
      · rw [if_neg c3] at h
        refine E_iload_n 74 rfl dX12_sale_73 rfl 1 rfl ?_
        refine E_if_neB 82 77 (by decide) rfl dX12_sale_74 (fun c4 => ?_) (fun c4 => ?_)
        · rw [if_pos c4] at h
          refine E_lload 84 rfl dX12_sale_82 4 rfl ?_
          refine E_lload_n 85 rfl dX12_sale_84 rfl 3 rfl ?_
          refine E_lsub 86 rfl dX12_sale_85 ?_
          refine E_sub (lv' := []) [] rfl ?_
          exact S_X12_sale_86 (x5 - x3) I L _ h
        · rw [if_neg (by rw [c4]; decide)] at h
          refine E_sub (lv' := [(2, .int x2)]) [2] rfl ?_
          exact S_X12_sale_77 x2 I L _ h
    · rw [if_neg c2] at h
      refine E_aload_n 29 rfl dX12_sale_28 rfl 0 rfl ?_
      refine E_iload 31 rfl dX12_sale_29 5 rfl ?_
      obtain ⟨w5, hw5, h⟩ := Option.bind_eq_some_iff.mp h
      refine E_cV1 (As := [.int x7]) 34 rfl dX12_sale_31 shc_149 ck_X12_370 cv_X12_valueOf rfl (by decide) (Nat.le_of_ble_eq_true rfl) (C_X12_valueOf (g := g) hw5) rfl ?_
      refine E_lstore (lv' := [(8, .long w5.1), (0, .ref 149), (1, .int (bI x1)), (2, .int x2), (3, .long x3), (5, .long x5), (7, .int x7)]) 36 rfl dX12_sale_34 (Nat.le_of_ble_eq_true rfl) rfl ?_
      refine E_lload 38 rfl dX12_sale_36 5 rfl ?_
      refine E_lload 40 rfl dX12_sale_38 0 rfl ?_
      refine E_ladd 41 rfl dX12_sale_40 ?_
      refine E_lstore (lv' := [(5, .long (x5 + w5.1)), (8, .long w5.1), (0, .ref 149), (1, .int (bI x1)), (2, .int x2), (3, .long x3), (7, .int x7)]) 43 rfl dX12_sale_41 (Nat.le_of_ble_eq_true rfl) rfl ?_
      refine E_iload_n 44 rfl dX12_sale_43 rfl 4 rfl ?_
      refine E_if_lt 57 47 (by decide) rfl dX12_sale_44 (fun c6 => ?_) (fun c6 => ?_)
      · rw [if_pos c6] at h
        refine E_sub (lv' := [(0, .ref 149), (1, .int (bI x1)), (5, .long (x5 + w5.1)), (7, .int x7), (8, .long w5.1)]) [2, 3, 0, 6, 1] rfl ?_
        exact S_X12_sale_57 ih x1 (x5 + w5.1) x7 w5.1 w5.2.1 w5.2.2 _ h
      · rw [if_neg c6] at h
        refine E_lload 49 rfl dX12_sale_47 1 rfl ?_
        refine E_lload_n 50 rfl dX12_sale_49 rfl 5 rfl ?_
        refine E_lc_gt 57 51 54 (by decide) rfl rfl dX12_sale_50 dX12_sale_51 (fun c7 => ?_) (fun c7 => ?_)
        · rw [if_pos c7] at h
          refine E_sub (lv' := [(0, .ref 149), (1, .int (bI x1)), (5, .long (x5 + w5.1)), (7, .int x7), (8, .long w5.1)]) [2, 3, 0, 6, 1] rfl ?_
          exact S_X12_sale_57 ih x1 (x5 + w5.1) x7 w5.1 w5.2.1 w5.2.2 _ h
        · rw [if_neg c7] at h
          refine E_goto 63 (by decide) dX12_sale_54 ?_
          refine E_sub (lv' := [(0, .ref 149), (1, .int (bI x1)), (2, .int x2), (3, .long x3), (5, .long (x5 + w5.1)), (7, .int x7)]) [2, 3, 4, 5, 0, 6] rfl ?_
          exact S_X12_sale_63 ih x1 x2 x3 (x5 + w5.1) x7 w5.2.1 w5.2.2 _ h
def f_X12_sale (x1 : Bool) (I : MI) (L : ML) : Option (Int64 × MI × ML) := Option.bind (pfI I 149 0 0) fun I1 => Option.bind (f_X12_spreads I1 L) fun w2 => f_X12_sale_19 FU x1 ((-1)) 0 0 0 w2.1 w2.2
set_option maxRecDepth 100000 in
theorem S_X12_sale {g : Gx} (x1 : Bool) (I : MI) (L : ML) (res : Int64 × MI × ML) (h : f_X12_sale x1 I L = some res) : E g 13 0 mX12_sale 0 [(0, .ref 149), (1, .int (bI x1))] [] (I, L) (.inl (some (.long res.1))) (res.2.1, res.2.2) := by
  unfold f_X12_sale at h
  refine E_aload_n 1 rfl dX12_sale_0 rfl 0 rfl ?_
  refine E_iconst (v := 0) 2 rfl dX12_sale_1 (by decide) ?_
  obtain ⟨I1, hI1, h⟩ := Option.bind_eq_some_iff.mp h
  refine E_pfI 5 rfl dX12_sale_2 shc_149 fl_X12_3 rfl hI1 ?_
  refine E_aload_n 6 rfl dX12_sale_5 rfl 0 rfl ?_
  obtain ⟨w2, hw2, h⟩ := Option.bind_eq_some_iff.mp h
  refine E_cV0 (As := []) 9 rfl dX12_sale_6 shc_149 ck_X12_298 cv_X12_spreads rfl (by decide) (Nat.le_of_ble_eq_true rfl) (C_X12_spreads (g := g) hw2) rfl ?_
  refine E_iconst (v := (-1)) 10 rfl dX12_sale_9 (by decide) ?_
  refine E_istore_n (lv' := [(2, .int ((-1))), (0, .ref 149), (1, .int (bI x1))]) 11 rfl dX12_sale_10 rfl (Nat.le_of_ble_eq_true rfl) rfl ?_
  refine E_lconst (v := 0) 12 rfl dX12_sale_11 (by decide) ?_
  refine E_lstore_n (lv' := [(3, .long 0), (2, .int ((-1))), (0, .ref 149), (1, .int (bI x1))]) 13 rfl dX12_sale_12 rfl (Nat.le_of_ble_eq_true rfl) rfl ?_
  refine E_lconst (v := 0) 14 rfl dX12_sale_13 (by decide) ?_
  refine E_lstore (lv' := [(5, .long 0), (3, .long 0), (2, .int ((-1))), (0, .ref 149), (1, .int (bI x1))]) 16 rfl dX12_sale_14 (Nat.le_of_ble_eq_true rfl) rfl ?_
  refine E_iconst (v := 0) 17 rfl dX12_sale_16 (by decide) ?_
  refine E_istore (lv' := [(7, .int 0), (5, .long 0), (3, .long 0), (2, .int ((-1))), (0, .ref 149), (1, .int (bI x1))]) 19 rfl dX12_sale_17 (Nat.le_of_ble_eq_true rfl) rfl ?_
  refine E_sub (lv' := [(0, .ref 149), (1, .int (bI x1)), (2, .int ((-1))), (3, .long 0), (5, .long 0), (7, .int 0)]) [4, 5, 3, 2, 1, 0] rfl ?_
  exact S_X12_sale_19 FU x1 ((-1)) 0 0 0 w2.1 w2.2 _ h
theorem C_X12_sale {g : Gx} {x1 : Bool} {I : MI} {L : ML} {res : Int64 × MI × ML} (h : f_X12_sale x1 I L = some res) : Ent g 13 0 mX12_sale [.ref 149, .int (bI x1)] (I, L) (.inl (some (.long res.1))) (res.2.1, res.2.2) := Ent_of (by decide +kernel) (Nat.le_of_ble_eq_true rfl) (S_X12_sale x1 I L _ h)
def f_X12_seed (x1 : Int32) (I : MI) (L : ML) : Option (Int32 × MI × ML) := Option.bind (pfI I 149 0 0) fun I1 => Option.bind (ldI I1 150 2143 13) fun v2 => Option.bind (stI I1 150 2143 13 x1) fun I3 => some (v2, I3, L)
set_option maxRecDepth 100000 in
theorem S_X12_seed {g : Gx} (x1 : Int32) (I : MI) (L : ML) (res : Int32 × MI × ML) (h : f_X12_seed x1 I L = some res) : E g 1 0 mX12_seed 0 [(0, .ref 149), (1, .int x1)] [] (I, L) (.inl (some (.int res.1))) (res.2.1, res.2.2) := by
  unfold f_X12_seed at h
  refine E_aload_n 1 rfl dX12_seed_0 rfl 0 rfl ?_
  refine E_iconst (v := 0) 2 rfl dX12_seed_1 (by decide) ?_
  obtain ⟨I1, hI1, h⟩ := Option.bind_eq_some_iff.mp h
  refine E_pfI 5 rfl dX12_seed_2 shc_149 fl_X12_3 rfl hI1 ?_
  refine E_aload_n 6 rfl dX12_seed_5 rfl 0 rfl ?_
  refine E_gR 150 9 rfl dX12_seed_6 shc_149 fl_X12_13 rfl (by decide) (by decide) ?_
  refine E_bipush (v := 13) 11 rfl dX12_seed_9 (by decide) ?_
  obtain ⟨v2, hv2, h⟩ := Option.bind_eq_some_iff.mp h
  refine E_ldI 12 rfl dX12_seed_11 shc_150 hv2 ?_
  refine E_istore_n (lv' := [(2, .int v2), (0, .ref 149), (1, .int x1)]) 13 rfl dX12_seed_12 rfl (Nat.le_of_ble_eq_true rfl) rfl ?_
  refine E_aload_n 14 rfl dX12_seed_13 rfl 1 rfl ?_
  refine E_gR 150 17 rfl dX12_seed_14 shc_149 fl_X12_13 rfl (by decide) (by decide) ?_
  refine E_bipush (v := 13) 19 rfl dX12_seed_17 (by decide) ?_
  refine E_iload_n 20 rfl dX12_seed_19 rfl 2 rfl ?_
  obtain ⟨I3, hI3, h⟩ := Option.bind_eq_some_iff.mp h
  refine E_stI 21 rfl dX12_seed_20 shc_150 hI3 ?_
  refine E_iload_n 22 rfl dX12_seed_21 rfl 0 rfl ?_
  cases h
  exact E_iret rfl dX12_seed_22
theorem C_X12_seed {g : Gx} {x1 : Int32} {I : MI} {L : ML} {res : Int32 × MI × ML} (h : f_X12_seed x1 I L = some res) : Ent g 1 0 mX12_seed [.ref 149, .int x1] (I, L) (.inl (some (.int res.1))) (res.2.1, res.2.2) := Ent_of (by decide +kernel) (Nat.le_of_ble_eq_true rfl) (S_X12_seed x1 I L _ h)
def f_X12_count_80 (y0 : Int32) (I : MI) (L : ML) : Option (Int32 × MI × ML) := some (y0, I, L)
set_option maxRecDepth 100000 in
theorem S_X12_count_80 {g : Gx} (y0 : Int32) (I : MI) (L : ML) (res : Int32 × MI × ML) (h : f_X12_count_80 y0 I L = some res) : E g 2 0 mX12_count 80 [] [.int y0] (I, L) (.inl (some (.int res.1))) (res.2.1, res.2.2) := by
  unfold f_X12_count_80 at h
  cases h
  exact E_iret rfl dX12_count_80
def f_X12_count_54 (y0 : Int32) (I : MI) (L : ML) : Option (Int32 × MI × ML) := some (y0, I, L)
set_option maxRecDepth 100000 in
theorem S_X12_count_54 {g : Gx} (y0 : Int32) (I : MI) (L : ML) (res : Int32 × MI × ML) (h : f_X12_count_54 y0 I L = some res) : E g 2 0 mX12_count 54 [] [.int y0] (I, L) (.inl (some (.int res.1))) (res.2.1, res.2.2) := by
  unfold f_X12_count_54 at h
  cases h
  exact E_iret rfl dX12_count_54
def f_X12_count (x1 : Int32) (I : MI) (L : ML) : Option (Int32 × MI × ML) := Option.bind (pfI I 149 0 0) fun I1 => if x1 = 5 then (Option.bind (ldI I1 150 2143 5) fun v3 => if v3 = 1 then (Option.bind (ldI I1 150 2143 445) fun v5 => f_X12_count_54 v5 I1 L) else (f_X12_count_54 ((-1)) I1 L)) else if x1 = 13 then (some (I1 149 6, I1, L)) else (Option.bind (f_X12_in x1 0 12 I1 L) fun v7 => if v7 = true then (Option.bind (ldI I1 150 2143 x1) fun v9 => f_X12_count_80 v9 I1 L) else (f_X12_count_80 ((-1)) I1 L))
set_option maxRecDepth 100000 in
theorem S_X12_count {g : Gx} (x1 : Int32) (I : MI) (L : ML) (res : Int32 × MI × ML) (h : f_X12_count x1 I L = some res) : E g 2 0 mX12_count 0 [(0, .ref 149), (1, .int x1)] [] (I, L) (.inl (some (.int res.1))) (res.2.1, res.2.2) := by
  unfold f_X12_count at h
  refine E_aload_n 1 rfl dX12_count_0 rfl 0 rfl ?_
  refine E_iconst (v := 0) 2 rfl dX12_count_1 (by decide) ?_
  obtain ⟨I1, hI1, h⟩ := Option.bind_eq_some_iff.mp h
  refine E_pfI 5 rfl dX12_count_2 shc_149 fl_X12_3 rfl hI1 ?_
  refine E_iload_n 6 rfl dX12_count_5 rfl 1 rfl ?_
  by_cases c2 : x1 = 5
  · rw [if_pos c2] at h
    refine E_lkIn (off := 26) 5 c2 32 (by decide) (by decide) (by decide) dX12_count_6 ?_
    refine E_aload_n 33 rfl dX12_count_32 rfl 0 rfl ?_
    refine E_gR 150 36 rfl dX12_count_33 shc_149 fl_X12_13 rfl (by decide) (by decide) ?_
    refine E_iconst (v := 5) 37 rfl dX12_count_36 (by decide) ?_
    obtain ⟨v3, hv3, h⟩ := Option.bind_eq_some_iff.mp h
    refine E_ldI 38 rfl dX12_count_37 shc_150 hv3 ?_
    refine E_iconst (v := 1) 39 rfl dX12_count_38 (by decide) ?_
    refine E_icmp_ne 53 42 (by decide) rfl dX12_count_39 (fun c4 => ?_) (fun c4 => ?_)
    · rw [if_neg c4] at h
      refine E_iconst (v := (-1)) 54 rfl dX12_count_53 (by decide) ?_
      refine E_sub (lv' := []) [] rfl ?_
      exact S_X12_count_54 ((-1)) I1 L _ h
    · rw [if_pos c4] at h
      refine E_aload_n 43 rfl dX12_count_42 rfl 0 rfl ?_
      refine E_gR 150 46 rfl dX12_count_43 shc_149 fl_X12_13 rfl (by decide) (by decide) ?_
      refine E_sipush (v := 445) 49 rfl dX12_count_46 (by decide) ?_
      obtain ⟨v5, hv5, h⟩ := Option.bind_eq_some_iff.mp h
      refine E_ldI 50 rfl dX12_count_49 shc_150 hv5 ?_
      refine E_goto 54 (by decide) dX12_count_50 ?_
      refine E_sub (lv' := []) [] rfl ?_
      exact S_X12_count_54 v5 I1 L _ h
  rw [if_neg c2] at h
  by_cases c6 : x1 = 13
  · rw [if_pos c6] at h
    refine E_lkIn (off := 49) 13 c6 55 (by decide) (by decide) (by decide) dX12_count_6 ?_
    refine E_aload_n 56 rfl dX12_count_55 rfl 0 rfl ?_
    refine E_gI 59 rfl dX12_count_56 shc_149 fl_X12_53 rfl ?_
    cases h
    exact E_iret rfl dX12_count_59
  rw [if_neg c6] at h
  refine E_lk (off := 54) 60 (by decide) (by decide) (lkOut2 (toI c2 (n := 5) (by decide)) (toI c6 (n := 13) (by decide))) dX12_count_6 ?_
  refine E_iload_n 61 rfl dX12_count_60 rfl 1 rfl ?_
  refine E_iconst (v := 0) 62 rfl dX12_count_61 (by decide) ?_
  refine E_bipush (v := 12) 64 rfl dX12_count_62 (by decide) ?_
  obtain ⟨v7, hv7, h⟩ := Option.bind_eq_some_iff.mp h
  refine E_cS1 (As := [.int x1, .int 0, .int 12]) 67 rfl dX12_count_64 ck_X12_60 ss_X12_in rfl (by decide) (Nat.le_of_ble_eq_true rfl) (C_X12_in (g := g) hv7) rfl ?_
  refine E_if_eqB 79 70 (by decide) rfl dX12_count_67 (fun c8 => ?_) (fun c8 => ?_)
  · rw [if_neg (by rw [c8]; decide)] at h
    refine E_iconst (v := (-1)) 80 rfl dX12_count_79 (by decide) ?_
    refine E_sub (lv' := []) [] rfl ?_
    exact S_X12_count_80 ((-1)) I1 L _ h
  · rw [if_pos c8] at h
    refine E_aload_n 71 rfl dX12_count_70 rfl 0 rfl ?_
    refine E_gR 150 74 rfl dX12_count_71 shc_149 fl_X12_13 rfl (by decide) (by decide) ?_
    refine E_iload_n 75 rfl dX12_count_74 rfl 1 rfl ?_
    obtain ⟨v9, hv9, h⟩ := Option.bind_eq_some_iff.mp h
    refine E_ldI 76 rfl dX12_count_75 shc_150 hv9 ?_
    refine E_goto 80 (by decide) dX12_count_76 ?_
    refine E_sub (lv' := []) [] rfl ?_
    exact S_X12_count_80 v9 I1 L _ h
theorem C_X12_count {g : Gx} {x1 : Int32} {I : MI} {L : ML} {res : Int32 × MI × ML} (h : f_X12_count x1 I L = some res) : Ent g 2 0 mX12_count [.ref 149, .int x1] (I, L) (.inl (some (.int res.1))) (res.2.1, res.2.2) := Ent_of (by decide +kernel) (Nat.le_of_ble_eq_true rfl) (S_X12_count x1 I L _ h)
