def f_X12_quiet_202 (k64 : Int32 → Int32 → Int32 → Int32 → Int64 → Int32 → MI → ML → Option (Int32 × MI × ML)) (x1 : Int32) (x2 : Int32) (x3 : Int32) (x4 : Int32) (x5 : Int64) (x7 : Int32) (I : MI) (L : ML) : Option (Int32 × MI × ML) := k64 x1 x2 x3 x4 x5 (x7 + 1) I L
set_option maxRecDepth 100000 in
theorem S_X12_quiet_202 {g : Gx} {k64 : Int32 → Int32 → Int32 → Int32 → Int64 → Int32 → MI → ML → Option (Int32 × MI × ML)} (hk64 : ∀ (x1z : Int32) (x2z : Int32) (x3z : Int32) (x4z : Int32) (x5z : Int64) (x7z : Int32) (I : MI) (L : ML) (res : Int32 × MI × ML), k64 x1z x2z x3z x4z x5z x7z I L = some res → E g 9 0 mX12_quiet 64 [(0, .ref 149), (1, .int x1z), (2, .int x2z), (3, .int x3z), (4, .int x4z), (5, .long x5z), (7, .int x7z)] [] (I, L) (.inl (some (.int res.1))) (res.2.1, res.2.2)) (x1 : Int32) (x2 : Int32) (x3 : Int32) (x4 : Int32) (x5 : Int64) (x7 : Int32) (I : MI) (L : ML) (res : Int32 × MI × ML) (h : f_X12_quiet_202 k64 x1 x2 x3 x4 x5 x7 I L = some res) : E g 9 0 mX12_quiet 202 [(0, .ref 149), (1, .int x1), (2, .int x2), (3, .int x3), (4, .int x4), (5, .long x5), (7, .int x7)] [] (I, L) (.inl (some (.int res.1))) (res.2.1, res.2.2) := by
  unfold f_X12_quiet_202 at h
  refine E_iinc (M := mX12_quiet) (j := 6) (v := x7 + 1) (lv' := [(7, .int (x7 + 1)), (0, .ref 149), (1, .int x1), (2, .int x2), (3, .int x3), (4, .int x4), (5, .long x5)]) 205 rfl dX12_quiet_202 rfl rfl (Nat.le_of_ble_eq_true rfl) rfl ?_
  refine E_goto (M := mX12_quiet) 64 (by decide) dX12_quiet_205 ?_
  refine E_sub (M := mX12_quiet) (lv' := [(0, .ref 149), (1, .int x1), (2, .int x2), (3, .int x3), (4, .int x4), (5, .long x5), (7, .int (x7 + 1))]) [1, 2, 3, 4, 5, 6, 0] rfl ?_
  exact hk64 x1 x2 x3 x4 x5 (x7 + 1) I L _ h
def f_X12_quiet_194 (k64 : Int32 → Int32 → Int32 → Int32 → Int64 → Int32 → MI → ML → Option (Int32 × MI × ML)) (x1 : Int32) (x2 : Int32) (x3 : Int32) (x7 : Int32) (x8 : Int64) (I : MI) (L : ML) : Option (Int32 × MI × ML) := f_X12_quiet_202 k64 x1 x2 x3 x7 x8 x7 I L
set_option maxRecDepth 100000 in
theorem S_X12_quiet_194 {g : Gx} {k64 : Int32 → Int32 → Int32 → Int32 → Int64 → Int32 → MI → ML → Option (Int32 × MI × ML)} (hk64 : ∀ (x1z : Int32) (x2z : Int32) (x3z : Int32) (x4z : Int32) (x5z : Int64) (x7z : Int32) (I : MI) (L : ML) (res : Int32 × MI × ML), k64 x1z x2z x3z x4z x5z x7z I L = some res → E g 9 0 mX12_quiet 64 [(0, .ref 149), (1, .int x1z), (2, .int x2z), (3, .int x3z), (4, .int x4z), (5, .long x5z), (7, .int x7z)] [] (I, L) (.inl (some (.int res.1))) (res.2.1, res.2.2)) (x1 : Int32) (x2 : Int32) (x3 : Int32) (x7 : Int32) (x8 : Int64) (I : MI) (L : ML) (res : Int32 × MI × ML) (h : f_X12_quiet_194 k64 x1 x2 x3 x7 x8 I L = some res) : E g 9 0 mX12_quiet 194 [(0, .ref 149), (1, .int x1), (2, .int x2), (3, .int x3), (7, .int x7), (8, .long x8)] [] (I, L) (.inl (some (.int res.1))) (res.2.1, res.2.2) := by
  unfold f_X12_quiet_194 at h
  refine E_iload (M := mX12_quiet) 196 rfl dX12_quiet_194 4 rfl ?_
  refine E_istore (M := mX12_quiet) (lv' := [(4, .int x7), (0, .ref 149), (1, .int x1), (2, .int x2), (3, .int x3), (7, .int x7), (8, .long x8)]) 198 rfl dX12_quiet_196 (Nat.le_of_ble_eq_true rfl) rfl ?_
  refine E_lload (M := mX12_quiet) 200 rfl dX12_quiet_198 6 rfl ?_
  refine E_lstore (M := mX12_quiet) (lv' := [(5, .long x8), (4, .int x7), (0, .ref 149), (1, .int x1), (2, .int x2), (3, .int x3), (7, .int x7), (8, .long x8)]) 202 rfl dX12_quiet_200 (Nat.le_of_ble_eq_true rfl) rfl ?_
  refine E_sub (M := mX12_quiet) (lv' := [(0, .ref 149), (1, .int x1), (2, .int x2), (3, .int x3), (4, .int x7), (5, .long x8), (7, .int x7)]) [2, 3, 4, 5, 1, 0, 6] rfl ?_
  exact S_X12_quiet_202 hk64 x1 x2 x3 x7 x8 x7 I L _ h
def f_X12_quiet_142 (k84 : Int32 → Int32 → Int32 → Int32 → Int64 → Int32 → Int64 → Int32 → Int32 → MI → ML → Option (Int32 × MI × ML)) (x1 : Int32) (x2 : Int32) (x3 : Int32) (x4 : Int32) (x5 : Int64) (x7 : Int32) (x8 : Int64) (x11 : Int32) (y0 : Int32) (y1 : Int32) (I : MI) (L : ML) : Option (Int32 × MI × ML) := k84 x1 x2 x3 x4 x5 x7 x8 (y0 + y1) (x11 + 1) I L
set_option maxRecDepth 100000 in
theorem S_X12_quiet_142 {g : Gx} {k84 : Int32 → Int32 → Int32 → Int32 → Int64 → Int32 → Int64 → Int32 → Int32 → MI → ML → Option (Int32 × MI × ML)} (hk84 : ∀ (x1z : Int32) (x2z : Int32) (x3z : Int32) (x4z : Int32) (x5z : Int64) (x7z : Int32) (x8z : Int64) (x10z : Int32) (x11z : Int32) (I : MI) (L : ML) (res : Int32 × MI × ML), k84 x1z x2z x3z x4z x5z x7z x8z x10z x11z I L = some res → E g 9 0 mX12_quiet 84 [(0, .ref 149), (1, .int x1z), (2, .int x2z), (3, .int x3z), (4, .int x4z), (5, .long x5z), (7, .int x7z), (8, .long x8z), (10, .int x10z), (11, .int x11z)] [] (I, L) (.inl (some (.int res.1))) (res.2.1, res.2.2)) (x1 : Int32) (x2 : Int32) (x3 : Int32) (x4 : Int32) (x5 : Int64) (x7 : Int32) (x8 : Int64) (x11 : Int32) (y0 : Int32) (y1 : Int32) (I : MI) (L : ML) (res : Int32 × MI × ML) (h : f_X12_quiet_142 k84 x1 x2 x3 x4 x5 x7 x8 x11 y0 y1 I L = some res) : E g 9 0 mX12_quiet 142 [(0, .ref 149), (1, .int x1), (2, .int x2), (3, .int x3), (4, .int x4), (5, .long x5), (7, .int x7), (8, .long x8), (11, .int x11)] [.int y1, .int y0] (I, L) (.inl (some (.int res.1))) (res.2.1, res.2.2) := by
  unfold f_X12_quiet_142 at h
  refine E_iadd (M := mX12_quiet) 143 rfl dX12_quiet_142 ?_
  refine E_istore (M := mX12_quiet) (lv' := [(10, .int (y0 + y1)), (0, .ref 149), (1, .int x1), (2, .int x2), (3, .int x3), (4, .int x4), (5, .long x5), (7, .int x7), (8, .long x8), (11, .int x11)]) 145 rfl dX12_quiet_143 (Nat.le_of_ble_eq_true rfl) rfl ?_
  refine E_iinc (M := mX12_quiet) (j := 9) (v := x11 + 1) (lv' := [(11, .int (x11 + 1)), (10, .int (y0 + y1)), (0, .ref 149), (1, .int x1), (2, .int x2), (3, .int x3), (4, .int x4), (5, .long x5), (7, .int x7), (8, .long x8)]) 148 rfl dX12_quiet_145 rfl rfl (Nat.le_of_ble_eq_true rfl) rfl ?_
  refine E_goto (M := mX12_quiet) 84 (by decide) dX12_quiet_148 ?_
  refine E_sub (M := mX12_quiet) (lv' := [(0, .ref 149), (1, .int x1), (2, .int x2), (3, .int x3), (4, .int x4), (5, .long x5), (7, .int x7), (8, .long x8), (10, .int (y0 + y1)), (11, .int (x11 + 1))]) [2, 3, 4, 5, 6, 7, 8, 9, 1, 0] rfl ?_
  exact hk84 x1 x2 x3 x4 x5 x7 x8 (y0 + y1) (x11 + 1) I L _ h
def f_X12_quiet_116 (k84 : Int32 → Int32 → Int32 → Int32 → Int64 → Int32 → Int64 → Int32 → Int32 → MI → ML → Option (Int32 × MI × ML)) (x1 : Int32) (x2 : Int32) (x3 : Int32) (x4 : Int32) (x5 : Int64) (x7 : Int32) (x10 : Int32) (x11 : Int32) (y0 : Int64) (y1 : Int64) (I : MI) (L : ML) : Option (Int32 × MI × ML) := Option.bind (f_X12_has x7 x11 I L) fun v1 => if v1 = true then (f_X12_quiet_142 k84 x1 x2 x3 x4 x5 x7 (y0 + y1) x11 x10 0 I L) else (Option.bind (f_X12_atOf x11 x1 I L) fun v3 => f_X12_quiet_142 k84 x1 x2 x3 x4 x5 x7 (y0 + y1) x11 x10 v3 I L)
set_option maxRecDepth 100000 in
theorem S_X12_quiet_116 {g : Gx} {k84 : Int32 → Int32 → Int32 → Int32 → Int64 → Int32 → Int64 → Int32 → Int32 → MI → ML → Option (Int32 × MI × ML)} (hk84 : ∀ (x1z : Int32) (x2z : Int32) (x3z : Int32) (x4z : Int32) (x5z : Int64) (x7z : Int32) (x8z : Int64) (x10z : Int32) (x11z : Int32) (I : MI) (L : ML) (res : Int32 × MI × ML), k84 x1z x2z x3z x4z x5z x7z x8z x10z x11z I L = some res → E g 9 0 mX12_quiet 84 [(0, .ref 149), (1, .int x1z), (2, .int x2z), (3, .int x3z), (4, .int x4z), (5, .long x5z), (7, .int x7z), (8, .long x8z), (10, .int x10z), (11, .int x11z)] [] (I, L) (.inl (some (.int res.1))) (res.2.1, res.2.2)) (x1 : Int32) (x2 : Int32) (x3 : Int32) (x4 : Int32) (x5 : Int64) (x7 : Int32) (x10 : Int32) (x11 : Int32) (y0 : Int64) (y1 : Int64) (I : MI) (L : ML) (res : Int32 × MI × ML) (h : f_X12_quiet_116 k84 x1 x2 x3 x4 x5 x7 x10 x11 y0 y1 I L = some res) : E g 9 0 mX12_quiet 116 [(0, .ref 149), (1, .int x1), (2, .int x2), (3, .int x3), (4, .int x4), (5, .long x5), (7, .int x7), (10, .int x10), (11, .int x11)] [.long y1, .long y0] (I, L) (.inl (some (.int res.1))) (res.2.1, res.2.2) := by
  unfold f_X12_quiet_116 at h
  refine E_ladd (M := mX12_quiet) 117 rfl dX12_quiet_116 ?_
  refine E_lstore (M := mX12_quiet) (lv' := [(8, .long (y0 + y1)), (0, .ref 149), (1, .int x1), (2, .int x2), (3, .int x3), (4, .int x4), (5, .long x5), (7, .int x7), (10, .int x10), (11, .int x11)]) 119 rfl dX12_quiet_117 (Nat.le_of_ble_eq_true rfl) rfl ?_
  refine E_iload (M := mX12_quiet) 121 rfl dX12_quiet_119 8 rfl ?_
  refine E_iload (M := mX12_quiet) 123 rfl dX12_quiet_121 7 rfl ?_
  refine E_iload (M := mX12_quiet) 125 rfl dX12_quiet_123 9 rfl ?_
  replace h := Option.bind_eq_some_iff.mp h
  obtain ⟨v1, hv1, h⟩ := h
  refine E_cS1 (M := mX12_quiet) (As := [.int x7, .int x11]) 128 rfl dX12_quiet_125 ck_X12_289 ss_X12_has rfl (by decide) (Nat.le_of_ble_eq_true rfl) (C_X12_has (g := g) hv1) rfl ?_
  refine E_if_eqB (M := mX12_quiet) 135 131 (by decide) rfl dX12_quiet_128 (fun c2 => ?_) (fun c2 => ?_)
  · rw [if_neg (by rw [c2]; decide)] at h
    refine E_aload_n (M := mX12_quiet) 136 rfl dX12_quiet_135 rfl 1 rfl ?_
    refine E_iload (M := mX12_quiet) 138 rfl dX12_quiet_136 9 rfl ?_
    refine E_iload_n (M := mX12_quiet) 139 rfl dX12_quiet_138 rfl 2 rfl ?_
    replace h := Option.bind_eq_some_iff.mp h
    obtain ⟨v3, hv3, h⟩ := h
    refine E_cV1 (M := mX12_quiet) (As := [.int x11, .int x1]) 142 rfl dX12_quiet_139 shc_149 ck_X12_269 cv_X12_atOf rfl (by decide) (Nat.le_of_ble_eq_true rfl) (C_X12_atOf (g := g) hv3) rfl ?_
    refine E_sub (M := mX12_quiet) (lv' := [(0, .ref 149), (1, .int x1), (2, .int x2), (3, .int x3), (4, .int x4), (5, .long x5), (7, .int x7), (8, .long (y0 + y1)), (11, .int x11)]) [1, 2, 3, 4, 5, 6, 7, 0, 9] rfl ?_
    exact S_X12_quiet_142 hk84 x1 x2 x3 x4 x5 x7 (y0 + y1) x11 x10 v3 I L _ h
  · rw [if_pos c2] at h
    refine E_iconst (M := mX12_quiet) (v := 0) 132 rfl dX12_quiet_131 (by decide) ?_
    refine E_goto (M := mX12_quiet) 142 (by decide) dX12_quiet_132 ?_
    refine E_sub (M := mX12_quiet) (lv' := [(0, .ref 149), (1, .int x1), (2, .int x2), (3, .int x3), (4, .int x4), (5, .long x5), (7, .int x7), (8, .long (y0 + y1)), (11, .int x11)]) [1, 2, 3, 4, 5, 6, 7, 0, 9] rfl ?_
    exact S_X12_quiet_142 hk84 x1 x2 x3 x4 x5 x7 (y0 + y1) x11 x10 0 I L _ h
def f_X12_quiet_84 (k64 : Int32 → Int32 → Int32 → Int32 → Int64 → Int32 → MI → ML → Option (Int32 × MI × ML)) : Nat → Int32 → Int32 → Int32 → Int32 → Int64 → Int32 → Int64 → Int32 → Int32 → MI → ML → Option (Int32 × MI × ML)
  | 0, _, _, _, _, _, _, _, _, _, _, _ => none
  | n + 1, x1, x2, x3, x4, x5, x7, x8, x10, x11, I, L => Option.bind (f_X12_noises I L) fun v1 => if v1 ≤ x11 then (if x2 < x10 then (f_X12_quiet_202 k64 x1 x2 x3 x4 x5 x7 I L) else (if x4 < 0 then (f_X12_quiet_194 k64 x1 x2 x3 x7 x8 I L) else (if x5 < x8 then (f_X12_quiet_202 k64 x1 x2 x3 x4 x5 x7 I L) else (if x8 = x5 then (Option.bind (f_J6_bitCount_0f7a4 x7 I L) fun v7 => Option.bind (f_J6_bitCount_0f7a4 x4 I L) fun v8 => if v7 < v8 then (f_X12_quiet_194 k64 x1 x2 x3 x7 x8 I L) else (f_X12_quiet_202 k64 x1 x2 x3 x4 x5 x7 I L)) else (f_X12_quiet_194 k64 x1 x2 x3 x7 x8 I L))))) else (Option.bind (f_X12_has x7 x11 I L) fun v10 => if v10 = true then (Option.bind (f_X12_dueOf x11 x3 I L) fun v12 => f_X12_quiet_116 (f_X12_quiet_84 k64 n) x1 x2 x3 x4 x5 x7 x10 x11 x8 v12 I L) else (f_X12_quiet_116 (f_X12_quiet_84 k64 n) x1 x2 x3 x4 x5 x7 x10 x11 x8 0 I L))
set_option maxRecDepth 100000 in
theorem S_X12_quiet_84 {g : Gx} {k64 : Int32 → Int32 → Int32 → Int32 → Int64 → Int32 → MI → ML → Option (Int32 × MI × ML)} (hk64 : ∀ (x1z : Int32) (x2z : Int32) (x3z : Int32) (x4z : Int32) (x5z : Int64) (x7z : Int32) (I : MI) (L : ML) (res : Int32 × MI × ML), k64 x1z x2z x3z x4z x5z x7z I L = some res → E g 9 0 mX12_quiet 64 [(0, .ref 149), (1, .int x1z), (2, .int x2z), (3, .int x3z), (4, .int x4z), (5, .long x5z), (7, .int x7z)] [] (I, L) (.inl (some (.int res.1))) (res.2.1, res.2.2)) : ∀ (n : Nat) (x1 : Int32) (x2 : Int32) (x3 : Int32) (x4 : Int32) (x5 : Int64) (x7 : Int32) (x8 : Int64) (x10 : Int32) (x11 : Int32) (I : MI) (L : ML) (res : Int32 × MI × ML), f_X12_quiet_84 k64 n x1 x2 x3 x4 x5 x7 x8 x10 x11 I L = some res → E g 9 0 mX12_quiet 84 [(0, .ref 149), (1, .int x1), (2, .int x2), (3, .int x3), (4, .int x4), (5, .long x5), (7, .int x7), (8, .long x8), (10, .int x10), (11, .int x11)] [] (I, L) (.inl (some (.int res.1))) (res.2.1, res.2.2) := by
  intro n
  induction n with
  | zero =>
    intros
    rename_i h
    cases h
  | succ n ih =>
    intro x1 x2 x3 x4 x5 x7 x8 x10 x11 I L res h
    rw [f_X12_quiet_84] at h
    refine E_iload (M := mX12_quiet) 86 rfl dX12_quiet_84 9 rfl ?_
    refine E_aload_n (M := mX12_quiet) 87 rfl dX12_quiet_86 rfl 0 rfl ?_
    replace h := Option.bind_eq_some_iff.mp h
    obtain ⟨v1, hv1, h⟩ := h
    refine E_cV1 (M := mX12_quiet) (As := []) 90 rfl dX12_quiet_87 shc_149 ck_X12_67 cv_X12_noises rfl (by decide) (Nat.le_of_ble_eq_true rfl) (C_X12_noises (g := g) hv1) rfl ?_
    refine E_icmp_ge (M := mX12_quiet) 151 93 (by decide) rfl dX12_quiet_90 (fun c2 => ?_) (fun c2 => ?_)
    · rw [if_pos c2] at h
      refine E_iload (M := mX12_quiet) 153 rfl dX12_quiet_151 8 rfl ?_
      refine E_iload_n (M := mX12_quiet) 154 rfl dX12_quiet_153 rfl 2 rfl ?_
      refine E_icmp_gt (M := mX12_quiet) 202 157 (by decide) rfl dX12_quiet_154 (fun c3 => ?_) (fun c3 => ?_)
      · rw [if_pos c3] at h
        refine E_sub (M := mX12_quiet) (lv' := [(0, .ref 149), (1, .int x1), (2, .int x2), (3, .int x3), (4, .int x4), (5, .long x5), (7, .int x7)]) [0, 1, 2, 3, 4, 5, 6] rfl ?_
        exact S_X12_quiet_202 hk64 x1 x2 x3 x4 x5 x7 I L _ h
      · rw [if_neg c3] at h
        refine E_iload (M := mX12_quiet) 159 rfl dX12_quiet_157 4 rfl ?_
        refine E_if_lt (M := mX12_quiet) 194 162 (by decide) rfl dX12_quiet_159 (fun c4 => ?_) (fun c4 => ?_)
        · rw [if_pos c4] at h
          refine E_sub (M := mX12_quiet) (lv' := [(0, .ref 149), (1, .int x1), (2, .int x2), (3, .int x3), (7, .int x7), (8, .long x8)]) [0, 1, 2, 3, 6, 7] rfl ?_
          exact S_X12_quiet_194 hk64 x1 x2 x3 x7 x8 I L _ h
        · rw [if_neg c4] at h
          refine E_lload (M := mX12_quiet) 164 rfl dX12_quiet_162 7 rfl ?_
          refine E_lload (M := mX12_quiet) 166 rfl dX12_quiet_164 5 rfl ?_
          refine E_lc_gt (M := mX12_quiet) 202 167 170 (by decide) rfl rfl dX12_quiet_166 dX12_quiet_167 (fun c5 => ?_) (fun c5 => ?_)
          · rw [if_pos c5] at h
            refine E_sub (M := mX12_quiet) (lv' := [(0, .ref 149), (1, .int x1), (2, .int x2), (3, .int x3), (4, .int x4), (5, .long x5), (7, .int x7)]) [0, 1, 2, 3, 4, 5, 6] rfl ?_
            exact S_X12_quiet_202 hk64 x1 x2 x3 x4 x5 x7 I L _ h
          · rw [if_neg c5] at h
            refine E_lload (M := mX12_quiet) 172 rfl dX12_quiet_170 7 rfl ?_
            refine E_lload (M := mX12_quiet) 174 rfl dX12_quiet_172 5 rfl ?_
            refine E_lc_ne (M := mX12_quiet) 194 175 178 (by decide) rfl rfl dX12_quiet_174 dX12_quiet_175 (fun c6 => ?_) (fun c6 => ?_)
            · rw [if_neg c6] at h
              refine E_sub (M := mX12_quiet) (lv' := [(0, .ref 149), (1, .int x1), (2, .int x2), (3, .int x3), (7, .int x7), (8, .long x8)]) [0, 1, 2, 3, 6, 7] rfl ?_
              exact S_X12_quiet_194 hk64 x1 x2 x3 x7 x8 I L _ h
            · rw [if_pos c6] at h
              refine E_iload (M := mX12_quiet) 180 rfl dX12_quiet_178 6 rfl ?_
              replace h := Option.bind_eq_some_iff.mp h
              obtain ⟨v7, hv7, h⟩ := h
              refine E_cS1 (M := mX12_quiet) (As := [.int x7]) 183 rfl dX12_quiet_180 ck_X12_339 ss_J6_bitCount_0f7a4 rfl (by decide) (Nat.le_of_ble_eq_true rfl) (C_J6_bitCount_0f7a4 (g := g) hv7) rfl ?_
              refine E_iload (M := mX12_quiet) 185 rfl dX12_quiet_183 4 rfl ?_
              replace h := Option.bind_eq_some_iff.mp h
              obtain ⟨v8, hv8, h⟩ := h
              refine E_cS1 (M := mX12_quiet) (As := [.int x4]) 188 rfl dX12_quiet_185 ck_X12_339 ss_J6_bitCount_0f7a4 rfl (by decide) (Nat.le_of_ble_eq_true rfl) (C_J6_bitCount_0f7a4 (g := g) hv8) rfl ?_
              refine E_icmp_lt (M := mX12_quiet) 194 191 (by decide) rfl dX12_quiet_188 (fun c9 => ?_) (fun c9 => ?_)
              · rw [if_pos c9] at h
                refine E_sub (M := mX12_quiet) (lv' := [(0, .ref 149), (1, .int x1), (2, .int x2), (3, .int x3), (7, .int x7), (8, .long x8)]) [0, 1, 2, 3, 6, 7] rfl ?_
                exact S_X12_quiet_194 hk64 x1 x2 x3 x7 x8 I L _ h
              · rw [if_neg c9] at h
                refine E_goto (M := mX12_quiet) 202 (by decide) dX12_quiet_191 ?_
                refine E_sub (M := mX12_quiet) (lv' := [(0, .ref 149), (1, .int x1), (2, .int x2), (3, .int x3), (4, .int x4), (5, .long x5), (7, .int x7)]) [0, 1, 2, 3, 4, 5, 6] rfl ?_
                exact S_X12_quiet_202 hk64 x1 x2 x3 x4 x5 x7 I L _ h
    · rw [if_neg c2] at h
      refine E_lload (M := mX12_quiet) 95 rfl dX12_quiet_93 7 rfl ?_
      refine E_iload (M := mX12_quiet) 97 rfl dX12_quiet_95 6 rfl ?_
      refine E_iload (M := mX12_quiet) 99 rfl dX12_quiet_97 9 rfl ?_
      replace h := Option.bind_eq_some_iff.mp h
      obtain ⟨v10, hv10, h⟩ := h
      refine E_cS1 (M := mX12_quiet) (As := [.int x7, .int x11]) 102 rfl dX12_quiet_99 ck_X12_289 ss_X12_has rfl (by decide) (Nat.le_of_ble_eq_true rfl) (C_X12_has (g := g) hv10) rfl ?_
      refine E_if_eqB (M := mX12_quiet) 115 105 (by decide) rfl dX12_quiet_102 (fun c11 => ?_) (fun c11 => ?_)
      · rw [if_neg (by rw [c11]; decide)] at h
        refine E_lconst (M := mX12_quiet) (v := 0) 116 rfl dX12_quiet_115 (by decide) ?_
        refine E_sub (M := mX12_quiet) (lv' := [(0, .ref 149), (1, .int x1), (2, .int x2), (3, .int x3), (4, .int x4), (5, .long x5), (7, .int x7), (10, .int x10), (11, .int x11)]) [0, 1, 2, 3, 4, 5, 6, 8, 9] rfl ?_
        exact S_X12_quiet_116 ih x1 x2 x3 x4 x5 x7 x10 x11 x8 0 I L _ h
      · rw [if_pos c11] at h
        refine E_aload_n (M := mX12_quiet) 106 rfl dX12_quiet_105 rfl 0 rfl ?_
        refine E_iload (M := mX12_quiet) 108 rfl dX12_quiet_106 9 rfl ?_
        refine E_iload_n (M := mX12_quiet) 109 rfl dX12_quiet_108 rfl 3 rfl ?_
        replace h := Option.bind_eq_some_iff.mp h
        obtain ⟨v12, hv12, h⟩ := h
        refine E_cV1 (M := mX12_quiet) (As := [.int x11, .int x3]) 112 rfl dX12_quiet_109 shc_149 ck_X12_351 cv_X12_dueOf rfl (by decide) (Nat.le_of_ble_eq_true rfl) (C_X12_dueOf (g := g) hv12) rfl ?_
        refine E_goto (M := mX12_quiet) 116 (by decide) dX12_quiet_112 ?_
        refine E_sub (M := mX12_quiet) (lv' := [(0, .ref 149), (1, .int x1), (2, .int x2), (3, .int x3), (4, .int x4), (5, .long x5), (7, .int x7), (10, .int x10), (11, .int x11)]) [0, 1, 2, 3, 4, 5, 6, 8, 9] rfl ?_
        exact S_X12_quiet_116 ih x1 x2 x3 x4 x5 x7 x10 x11 x8 v12 I L _ h
def f_X12_quiet_64 : Nat → Int32 → Int32 → Int32 → Int32 → Int64 → Int32 → MI → ML → Option (Int32 × MI × ML)
  | 0, _, _, _, _, _, _, _, _ => none
  | n + 1, x1, x2, x3, x4, x5, x7, I, L => Option.bind (f_X12_noises I L) fun v1 => if (1 <<< (v1 &&& 31)) ≤ x7 then (some (x4, I, L)) else (f_X12_quiet_84 (f_X12_quiet_64 n) FU x1 x2 x3 x4 x5 x7 0 0 0 I L)
set_option maxRecDepth 100000 in
theorem S_X12_quiet_64 {g : Gx} : ∀ (n : Nat) (x1 : Int32) (x2 : Int32) (x3 : Int32) (x4 : Int32) (x5 : Int64) (x7 : Int32) (I : MI) (L : ML) (res : Int32 × MI × ML), f_X12_quiet_64 n x1 x2 x3 x4 x5 x7 I L = some res → E g 9 0 mX12_quiet 64 [(0, .ref 149), (1, .int x1), (2, .int x2), (3, .int x3), (4, .int x4), (5, .long x5), (7, .int x7)] [] (I, L) (.inl (some (.int res.1))) (res.2.1, res.2.2) := by
  intro n
  induction n with
  | zero =>
    intros
    rename_i h
    cases h
  | succ n ih =>
    intro x1 x2 x3 x4 x5 x7 I L res h
    rw [f_X12_quiet_64] at h
    refine E_iload (M := mX12_quiet) 66 rfl dX12_quiet_64 6 rfl ?_
    refine E_iconst (M := mX12_quiet) (v := 1) 67 rfl dX12_quiet_66 (by decide) ?_
    refine E_aload_n (M := mX12_quiet) 68 rfl dX12_quiet_67 rfl 0 rfl ?_
    replace h := Option.bind_eq_some_iff.mp h
    obtain ⟨v1, hv1, h⟩ := h
    refine E_cV1 (M := mX12_quiet) (As := []) 71 rfl dX12_quiet_68 shc_149 ck_X12_67 cv_X12_noises rfl (by decide) (Nat.le_of_ble_eq_true rfl) (C_X12_noises (g := g) hv1) rfl ?_
    refine E_ishl (M := mX12_quiet) 72 rfl dX12_quiet_71 ?_
    refine E_icmp_ge (M := mX12_quiet) 208 75 (by decide) rfl dX12_quiet_72 (fun c2 => ?_) (fun c2 => ?_)
    · rw [if_pos c2] at h
      refine E_iload (M := mX12_quiet) 210 rfl dX12_quiet_208 4 rfl ?_
      cases h
      exact E_iret (M := mX12_quiet) rfl dX12_quiet_210
    · rw [if_neg c2] at h
      refine E_lconst (M := mX12_quiet) (v := 0) 76 rfl dX12_quiet_75 (by decide) ?_
      refine E_lstore (M := mX12_quiet) (lv' := [(8, .long 0), (0, .ref 149), (1, .int x1), (2, .int x2), (3, .int x3), (4, .int x4), (5, .long x5), (7, .int x7)]) 78 rfl dX12_quiet_76 (Nat.le_of_ble_eq_true rfl) rfl ?_
      refine E_iconst (M := mX12_quiet) (v := 0) 79 rfl dX12_quiet_78 (by decide) ?_
      refine E_istore (M := mX12_quiet) (lv' := [(10, .int 0), (8, .long 0), (0, .ref 149), (1, .int x1), (2, .int x2), (3, .int x3), (4, .int x4), (5, .long x5), (7, .int x7)]) 81 rfl dX12_quiet_79 (Nat.le_of_ble_eq_true rfl) rfl ?_
      refine E_iconst (M := mX12_quiet) (v := 0) 82 rfl dX12_quiet_81 (by decide) ?_
      refine E_istore (M := mX12_quiet) (lv' := [(11, .int 0), (10, .int 0), (8, .long 0), (0, .ref 149), (1, .int x1), (2, .int x2), (3, .int x3), (4, .int x4), (5, .long x5), (7, .int x7)]) 84 rfl dX12_quiet_82 (Nat.le_of_ble_eq_true rfl) rfl ?_
      refine E_sub (M := mX12_quiet) (lv' := [(0, .ref 149), (1, .int x1), (2, .int x2), (3, .int x3), (4, .int x4), (5, .long x5), (7, .int x7), (8, .long 0), (10, .int 0), (11, .int 0)]) [3, 4, 5, 6, 7, 8, 9, 2, 1, 0] rfl ?_
      exact S_X12_quiet_84 ih FU x1 x2 x3 x4 x5 x7 0 0 0 I L _ h
def f_X12_quiet_49 (I : MI) (L : ML) : Option (Int32 × MI × ML) := some (0, I, L)
set_option maxRecDepth 100000 in
theorem S_X12_quiet_49 {g : Gx} (I : MI) (L : ML) (res : Int32 × MI × ML) (h : f_X12_quiet_49 I L = some res) : E g 9 0 mX12_quiet 49 [] [] (I, L) (.inl (some (.int res.1))) (res.2.1, res.2.2) := by
  unfold f_X12_quiet_49 at h
  refine E_iconst (M := mX12_quiet) (v := 0) 50 rfl dX12_quiet_49 (by decide) ?_
  cases h
  exact E_iret (M := mX12_quiet) rfl dX12_quiet_50
def f_X12_quiet_42 (x1 : Int32) (x2 : Int32) (x3 : Int32) (y1 : Bool) (I : MI) (L : ML) : Option (Int32 × MI × ML) := Option.bind (f_X12_throwsIf y1 2 I L) fun w1 => if w1.1 = true then (f_X12_quiet_49 w1.2.1 w1.2.2) else (Option.bind (f_X12_spreads w1.2.1 w1.2.2) fun w3 => f_X12_quiet_64 FU x1 x2 x3 ((-1)) 0 0 w3.1 w3.2)
set_option maxRecDepth 100000 in
theorem S_X12_quiet_42 {g : Gx} (x1 : Int32) (x2 : Int32) (x3 : Int32) (y1 : Bool) (I : MI) (L : ML) (res : Int32 × MI × ML) (h : f_X12_quiet_42 x1 x2 x3 y1 I L = some res) : E g 9 0 mX12_quiet 42 [(0, .ref 149), (1, .int x1), (2, .int x2), (3, .int x3)] [.int (bI y1), .ref 149] (I, L) (.inl (some (.int res.1))) (res.2.1, res.2.2) := by
  unfold f_X12_quiet_42 at h
  refine E_iconst (M := mX12_quiet) (v := 2) 43 rfl dX12_quiet_42 (by decide) ?_
  replace h := Option.bind_eq_some_iff.mp h
  obtain ⟨w1, hw1, h⟩ := h
  refine E_cV1 (M := mX12_quiet) (As := [.int (bI y1), .int 2]) 46 rfl dX12_quiet_43 shc_149 ck_X12_245 cv_X12_throwsIf rfl (by decide) (Nat.le_of_ble_eq_true rfl) (C_X12_throwsIf (g := g) hw1) rfl ?_
  refine E_if_eqB (M := mX12_quiet) 51 49 (by decide) rfl dX12_quiet_46 (fun c2 => ?_) (fun c2 => ?_)
  · rw [if_neg (by rw [c2]; decide)] at h
    refine E_aload_n (M := mX12_quiet) 52 rfl dX12_quiet_51 rfl 0 rfl ?_
    replace h := Option.bind_eq_some_iff.mp h
    obtain ⟨w3, hw3, h⟩ := h
    refine E_cV0 (M := mX12_quiet) (As := []) 55 rfl dX12_quiet_52 shc_149 ck_X12_298 cv_X12_spreads rfl (by decide) (Nat.le_of_ble_eq_true rfl) (C_X12_spreads (g := g) hw3) rfl ?_
    refine E_iconst (M := mX12_quiet) (v := (-1)) 56 rfl dX12_quiet_55 (by decide) ?_
    refine E_istore (M := mX12_quiet) (lv' := [(4, .int ((-1))), (0, .ref 149), (1, .int x1), (2, .int x2), (3, .int x3)]) 58 rfl dX12_quiet_56 (Nat.le_of_ble_eq_true rfl) rfl ?_
    refine E_lconst (M := mX12_quiet) (v := 0) 59 rfl dX12_quiet_58 (by decide) ?_
    refine E_lstore (M := mX12_quiet) (lv' := [(5, .long 0), (4, .int ((-1))), (0, .ref 149), (1, .int x1), (2, .int x2), (3, .int x3)]) 61 rfl dX12_quiet_59 (Nat.le_of_ble_eq_true rfl) rfl ?_
    refine E_iconst (M := mX12_quiet) (v := 0) 62 rfl dX12_quiet_61 (by decide) ?_
    refine E_istore (M := mX12_quiet) (lv' := [(7, .int 0), (5, .long 0), (4, .int ((-1))), (0, .ref 149), (1, .int x1), (2, .int x2), (3, .int x3)]) 64 rfl dX12_quiet_62 (Nat.le_of_ble_eq_true rfl) rfl ?_
    refine E_sub (M := mX12_quiet) (lv' := [(0, .ref 149), (1, .int x1), (2, .int x2), (3, .int x3), (4, .int ((-1))), (5, .long 0), (7, .int 0)]) [3, 4, 5, 6, 2, 1, 0] rfl ?_
    exact S_X12_quiet_64 FU x1 x2 x3 ((-1)) 0 0 w3.1 w3.2 _ h
  · rw [if_pos c2] at h
    refine E_sub (M := mX12_quiet) (lv' := []) [] rfl ?_
    exact S_X12_quiet_49 w1.2.1 w1.2.2 _ h
def f_X12_quiet_37 (x1 : Int32) (x2 : Int32) (x3 : Int32) (I : MI) (L : ML) : Option (Int32 × MI × ML) := f_X12_quiet_42 x1 x2 x3 true I L
set_option maxRecDepth 100000 in
theorem S_X12_quiet_37 {g : Gx} (x1 : Int32) (x2 : Int32) (x3 : Int32) (I : MI) (L : ML) (res : Int32 × MI × ML) (h : f_X12_quiet_37 x1 x2 x3 I L = some res) : E g 9 0 mX12_quiet 37 [(0, .ref 149), (1, .int x1), (2, .int x2), (3, .int x3)] [.ref 149] (I, L) (.inl (some (.int res.1))) (res.2.1, res.2.2) := by
  unfold f_X12_quiet_37 at h
  refine E_iconst (M := mX12_quiet) (v := 1) 38 rfl dX12_quiet_37 (by decide) ?_
  refine E_goto (M := mX12_quiet) 42 (by decide) dX12_quiet_38 ?_
  refine E_sub (M := mX12_quiet) (lv' := [(0, .ref 149), (1, .int x1), (2, .int x2), (3, .int x3)]) [0, 1, 2, 3] rfl ?_
  exact S_X12_quiet_42 x1 x2 x3 true I L _ h
def f_X12_quiet (x1 : Int32) (x2 : Int32) (x3 : Int32) (I : MI) (L : ML) : Option (Int32 × MI × ML) := Option.bind (pfI I 149 0 0) fun I1 => Option.bind (f_X12_noRoom x1 I1 L) fun v2 => Option.bind (f_X12_throwsIf v2 1 I1 L) fun w3 => if w3.1 = true then (f_X12_quiet_49 w3.2.1 w3.2.2) else (Option.bind (f_X12_in x2 0 999 w3.2.1 w3.2.2) fun v5 => if v5 = true then (Option.bind (f_X12_noDays x3 w3.2.1 w3.2.2) fun v7 => if v7 = true then (f_X12_quiet_37 x1 x2 x3 w3.2.1 w3.2.2) else (f_X12_quiet_42 x1 x2 x3 false w3.2.1 w3.2.2)) else (f_X12_quiet_37 x1 x2 x3 w3.2.1 w3.2.2))
set_option maxRecDepth 100000 in
theorem S_X12_quiet {g : Gx} (x1 : Int32) (x2 : Int32) (x3 : Int32) (I : MI) (L : ML) (res : Int32 × MI × ML) (h : f_X12_quiet x1 x2 x3 I L = some res) : E g 9 0 mX12_quiet 0 [(0, .ref 149), (1, .int x1), (2, .int x2), (3, .int x3)] [] (I, L) (.inl (some (.int res.1))) (res.2.1, res.2.2) := by
  unfold f_X12_quiet at h
  refine E_aload_n (M := mX12_quiet) 1 rfl dX12_quiet_0 rfl 0 rfl ?_
  refine E_iconst (M := mX12_quiet) (v := 0) 2 rfl dX12_quiet_1 (by decide) ?_
  replace h := Option.bind_eq_some_iff.mp h
  obtain ⟨I1, hI1, h⟩ := h
  refine E_pfI (M := mX12_quiet) 5 rfl dX12_quiet_2 shc_149 fl_X12_3 rfl hI1 ?_
  refine E_aload_n (M := mX12_quiet) 6 rfl dX12_quiet_5 rfl 0 rfl ?_
  refine E_aload_n (M := mX12_quiet) 7 rfl dX12_quiet_6 rfl 0 rfl ?_
  refine E_iload_n (M := mX12_quiet) 8 rfl dX12_quiet_7 rfl 1 rfl ?_
  replace h := Option.bind_eq_some_iff.mp h
  obtain ⟨v2, hv2, h⟩ := h
  refine E_cV1 (M := mX12_quiet) (As := [.int x1]) 11 rfl dX12_quiet_8 shc_149 ck_X12_292 cv_X12_noRoom rfl (by decide) (Nat.le_of_ble_eq_true rfl) (C_X12_noRoom (g := g) hv2) rfl ?_
  refine E_iconst (M := mX12_quiet) (v := 1) 12 rfl dX12_quiet_11 (by decide) ?_
  replace h := Option.bind_eq_some_iff.mp h
  obtain ⟨w3, hw3, h⟩ := h
  refine E_cV1 (M := mX12_quiet) (As := [.int (bI v2), .int 1]) 15 rfl dX12_quiet_12 shc_149 ck_X12_245 cv_X12_throwsIf rfl (by decide) (Nat.le_of_ble_eq_true rfl) (C_X12_throwsIf (g := g) hw3) rfl ?_
  refine E_if_neB (M := mX12_quiet) 49 18 (by decide) rfl dX12_quiet_15 (fun c4 => ?_) (fun c4 => ?_)
  · rw [if_pos c4] at h
    refine E_sub (M := mX12_quiet) (lv' := []) [] rfl ?_
    exact S_X12_quiet_49 w3.2.1 w3.2.2 _ h
  · rw [if_neg (by rw [c4]; decide)] at h
    refine E_aload_n (M := mX12_quiet) 19 rfl dX12_quiet_18 rfl 0 rfl ?_
    refine E_iload_n (M := mX12_quiet) 20 rfl dX12_quiet_19 rfl 2 rfl ?_
    refine E_iconst (M := mX12_quiet) (v := 0) 21 rfl dX12_quiet_20 (by decide) ?_
    refine E_sipush (M := mX12_quiet) (v := 999) 24 rfl dX12_quiet_21 (by decide) ?_
    replace h := Option.bind_eq_some_iff.mp h
    obtain ⟨v5, hv5, h⟩ := h
    refine E_cS1 (M := mX12_quiet) (As := [.int x2, .int 0, .int 999]) 27 rfl dX12_quiet_24 ck_X12_60 ss_X12_in rfl (by decide) (Nat.le_of_ble_eq_true rfl) (C_X12_in (g := g) hv5) rfl ?_
    refine E_if_eqB (M := mX12_quiet) 37 30 (by decide) rfl dX12_quiet_27 (fun c6 => ?_) (fun c6 => ?_)
    · rw [if_neg (by rw [c6]; decide)] at h
      refine E_sub (M := mX12_quiet) (lv' := [(0, .ref 149), (1, .int x1), (2, .int x2), (3, .int x3)]) [0, 1, 2, 3] rfl ?_
      exact S_X12_quiet_37 x1 x2 x3 w3.2.1 w3.2.2 _ h
    · rw [if_pos c6] at h
      refine E_iload_n (M := mX12_quiet) 31 rfl dX12_quiet_30 rfl 3 rfl ?_
      replace h := Option.bind_eq_some_iff.mp h
      obtain ⟨v7, hv7, h⟩ := h
      refine E_cS1 (M := mX12_quiet) (As := [.int x3]) 34 rfl dX12_quiet_31 ck_X12_348 ss_X12_noDays rfl (by decide) (Nat.le_of_ble_eq_true rfl) (C_X12_noDays (g := g) hv7) rfl ?_
      refine E_if_eqB (M := mX12_quiet) 41 37 (by decide) rfl dX12_quiet_34 (fun c8 => ?_) (fun c8 => ?_)
      · rw [if_neg (by rw [c8]; decide)] at h
        refine E_iconst (M := mX12_quiet) (v := 0) 42 rfl dX12_quiet_41 (by decide) ?_
        refine E_sub (M := mX12_quiet) (lv' := [(0, .ref 149), (1, .int x1), (2, .int x2), (3, .int x3)]) [0, 1, 2, 3] rfl ?_
        exact S_X12_quiet_42 x1 x2 x3 false w3.2.1 w3.2.2 _ h
      · rw [if_pos c8] at h
        refine E_sub (M := mX12_quiet) (lv' := [(0, .ref 149), (1, .int x1), (2, .int x2), (3, .int x3)]) [0, 1, 2, 3] rfl ?_
        exact S_X12_quiet_37 x1 x2 x3 w3.2.1 w3.2.2 _ h
theorem C_X12_quiet {g : Gx} {x1 : Int32} {x2 : Int32} {x3 : Int32} {I : MI} {L : ML} {res : Int32 × MI × ML} (h : f_X12_quiet x1 x2 x3 I L = some res) : Ent g 9 0 mX12_quiet [.ref 149, .int x1, .int x2, .int x3] (I, L) (.inl (some (.int res.1))) (res.2.1, res.2.2) := Ent_of (by decide +kernel) (Nat.le_of_ble_eq_true rfl) (S_X12_quiet x1 x2 x3 I L _ h)
def f_X12_isNear_78 (k14 : Int32 → Int32 → Bool → Int32 → MI → ML → Option (Bool)) (x1 : Int32) (x2 : Int32) (x4 : Int32) (y0 : Bool) (I : MI) (L : ML) : Option (Bool) := k14 x1 x2 y0 (x4 + 1) I L
set_option maxRecDepth 100000 in
theorem S_X12_isNear_78 {g : Gx} {k14 : Int32 → Int32 → Bool → Int32 → MI → ML → Option (Bool)} (hk14 : ∀ (x1z : Int32) (x2z : Int32) (x3z : Bool) (x4z : Int32) (I : MI) (L : ML) (res : Bool), k14 x1z x2z x3z x4z I L = some res → E g 2 0 mX12_isNear 14 [(0, .ref 149), (1, .int x1z), (2, .int x2z), (3, .int (bI x3z)), (4, .int x4z)] [] (I, L) (.inl (some (.int (bI res)))) (I, L)) (x1 : Int32) (x2 : Int32) (x4 : Int32) (y0 : Bool) (I : MI) (L : ML) (res : Bool) (h : f_X12_isNear_78 k14 x1 x2 x4 y0 I L = some res) : E g 2 0 mX12_isNear 78 [(0, .ref 149), (1, .int x1), (2, .int x2), (4, .int x4)] [.int (bI y0)] (I, L) (.inl (some (.int (bI res)))) (I, L) := by
  unfold f_X12_isNear_78 at h
  refine E_istore_n (M := mX12_isNear) (lv' := [(3, .int (bI y0)), (0, .ref 149), (1, .int x1), (2, .int x2), (4, .int x4)]) 79 rfl dX12_isNear_78 rfl (Nat.le_of_ble_eq_true rfl) rfl ?_
  refine E_iinc (M := mX12_isNear) (j := 4) (v := x4 + 1) (lv' := [(4, .int (x4 + 1)), (3, .int (bI y0)), (0, .ref 149), (1, .int x1), (2, .int x2)]) 82 rfl dX12_isNear_79 rfl rfl (Nat.le_of_ble_eq_true rfl) rfl ?_
  refine E_goto (M := mX12_isNear) 14 (by decide) dX12_isNear_82 ?_
  refine E_sub (M := mX12_isNear) (lv' := [(0, .ref 149), (1, .int x1), (2, .int x2), (3, .int (bI y0)), (4, .int (x4 + 1))]) [2, 3, 4, 1, 0] rfl ?_
  exact hk14 x1 x2 y0 (x4 + 1) I L _ h
def f_X12_isNear_77 (k14 : Int32 → Int32 → Bool → Int32 → MI → ML → Option (Bool)) (x1 : Int32) (x2 : Int32) (x4 : Int32) (I : MI) (L : ML) : Option (Bool) := f_X12_isNear_78 k14 x1 x2 x4 false I L
set_option maxRecDepth 100000 in
theorem S_X12_isNear_77 {g : Gx} {k14 : Int32 → Int32 → Bool → Int32 → MI → ML → Option (Bool)} (hk14 : ∀ (x1z : Int32) (x2z : Int32) (x3z : Bool) (x4z : Int32) (I : MI) (L : ML) (res : Bool), k14 x1z x2z x3z x4z I L = some res → E g 2 0 mX12_isNear 14 [(0, .ref 149), (1, .int x1z), (2, .int x2z), (3, .int (bI x3z)), (4, .int x4z)] [] (I, L) (.inl (some (.int (bI res)))) (I, L)) (x1 : Int32) (x2 : Int32) (x4 : Int32) (I : MI) (L : ML) (res : Bool) (h : f_X12_isNear_77 k14 x1 x2 x4 I L = some res) : E g 2 0 mX12_isNear 77 [(0, .ref 149), (1, .int x1), (2, .int x2), (4, .int x4)] [] (I, L) (.inl (some (.int (bI res)))) (I, L) := by
  unfold f_X12_isNear_77 at h
  refine E_iconst (M := mX12_isNear) (v := 0) 78 rfl dX12_isNear_77 (by decide) ?_
  refine E_sub (M := mX12_isNear) (lv' := [(0, .ref 149), (1, .int x1), (2, .int x2), (4, .int x4)]) [0, 1, 2, 3] rfl ?_
  exact S_X12_isNear_78 hk14 x1 x2 x4 false I L _ h
def f_X12_isNear_73 (k14 : Int32 → Int32 → Bool → Int32 → MI → ML → Option (Bool)) (x1 : Int32) (x2 : Int32) (x4 : Int32) (I : MI) (L : ML) : Option (Bool) := f_X12_isNear_78 k14 x1 x2 x4 true I L
set_option maxRecDepth 100000 in
theorem S_X12_isNear_73 {g : Gx} {k14 : Int32 → Int32 → Bool → Int32 → MI → ML → Option (Bool)} (hk14 : ∀ (x1z : Int32) (x2z : Int32) (x3z : Bool) (x4z : Int32) (I : MI) (L : ML) (res : Bool), k14 x1z x2z x3z x4z I L = some res → E g 2 0 mX12_isNear 14 [(0, .ref 149), (1, .int x1z), (2, .int x2z), (3, .int (bI x3z)), (4, .int x4z)] [] (I, L) (.inl (some (.int (bI res)))) (I, L)) (x1 : Int32) (x2 : Int32) (x4 : Int32) (I : MI) (L : ML) (res : Bool) (h : f_X12_isNear_73 k14 x1 x2 x4 I L = some res) : E g 2 0 mX12_isNear 73 [(0, .ref 149), (1, .int x1), (2, .int x2), (4, .int x4)] [] (I, L) (.inl (some (.int (bI res)))) (I, L) := by
  unfold f_X12_isNear_73 at h
  refine E_iconst (M := mX12_isNear) (v := 1) 74 rfl dX12_isNear_73 (by decide) ?_
  refine E_goto (M := mX12_isNear) 78 (by decide) dX12_isNear_74 ?_
  refine E_sub (M := mX12_isNear) (lv' := [(0, .ref 149), (1, .int x1), (2, .int x2), (4, .int x4)]) [0, 1, 2, 3] rfl ?_
  exact S_X12_isNear_78 hk14 x1 x2 x4 true I L _ h
def f_X12_isNear_51 (k14 : Int32 → Int32 → Bool → Int32 → MI → ML → Option (Bool)) (x1 : Int32) (x2 : Int32) (x4 : Int32) (I : MI) (L : ML) : Option (Bool) := Option.bind (f_X12_ofDoor x4 0 I L) fun v1 => if v1 = x2 then (Option.bind (f_X12_ofDoor x4 1 I L) fun v3 => if v3 = x1 then (f_X12_isNear_73 k14 x1 x2 x4 I L) else (f_X12_isNear_77 k14 x1 x2 x4 I L)) else (f_X12_isNear_77 k14 x1 x2 x4 I L)
set_option maxRecDepth 100000 in
theorem S_X12_isNear_51 {g : Gx} {k14 : Int32 → Int32 → Bool → Int32 → MI → ML → Option (Bool)} (hk14 : ∀ (x1z : Int32) (x2z : Int32) (x3z : Bool) (x4z : Int32) (I : MI) (L : ML) (res : Bool), k14 x1z x2z x3z x4z I L = some res → E g 2 0 mX12_isNear 14 [(0, .ref 149), (1, .int x1z), (2, .int x2z), (3, .int (bI x3z)), (4, .int x4z)] [] (I, L) (.inl (some (.int (bI res)))) (I, L)) (x1 : Int32) (x2 : Int32) (x4 : Int32) (I : MI) (L : ML) (res : Bool) (h : f_X12_isNear_51 k14 x1 x2 x4 I L = some res) : E g 2 0 mX12_isNear 51 [(0, .ref 149), (1, .int x1), (2, .int x2), (4, .int x4)] [] (I, L) (.inl (some (.int (bI res)))) (I, L) := by
  unfold f_X12_isNear_51 at h
  refine E_aload_n (M := mX12_isNear) 52 rfl dX12_isNear_51 rfl 0 rfl ?_
  refine E_iload (M := mX12_isNear) 54 rfl dX12_isNear_52 3 rfl ?_
  refine E_iconst (M := mX12_isNear) (v := 0) 55 rfl dX12_isNear_54 (by decide) ?_
  replace h := Option.bind_eq_some_iff.mp h
  obtain ⟨v1, hv1, h⟩ := h
  refine E_cV1 (M := mX12_isNear) (As := [.int x4, .int 0]) 58 rfl dX12_isNear_55 shc_149 ck_X12_249 cv_X12_ofDoor rfl (by decide) (Nat.le_of_ble_eq_true rfl) (C_X12_ofDoor (g := g) hv1) rfl ?_
  refine E_iload_n (M := mX12_isNear) 59 rfl dX12_isNear_58 rfl 2 rfl ?_
  refine E_icmp_ne (M := mX12_isNear) 77 62 (by decide) rfl dX12_isNear_59 (fun c2 => ?_) (fun c2 => ?_)
  · rw [if_neg c2] at h
    refine E_sub (M := mX12_isNear) (lv' := [(0, .ref 149), (1, .int x1), (2, .int x2), (4, .int x4)]) [0, 1, 2, 3] rfl ?_
    exact S_X12_isNear_77 hk14 x1 x2 x4 I L _ h
  · rw [if_pos c2] at h
    refine E_aload_n (M := mX12_isNear) 63 rfl dX12_isNear_62 rfl 0 rfl ?_
    refine E_iload (M := mX12_isNear) 65 rfl dX12_isNear_63 3 rfl ?_
    refine E_iconst (M := mX12_isNear) (v := 1) 66 rfl dX12_isNear_65 (by decide) ?_
    replace h := Option.bind_eq_some_iff.mp h
    obtain ⟨v3, hv3, h⟩ := h
    refine E_cV1 (M := mX12_isNear) (As := [.int x4, .int 1]) 69 rfl dX12_isNear_66 shc_149 ck_X12_249 cv_X12_ofDoor rfl (by decide) (Nat.le_of_ble_eq_true rfl) (C_X12_ofDoor (g := g) hv3) rfl ?_
    refine E_iload_n (M := mX12_isNear) 70 rfl dX12_isNear_69 rfl 1 rfl ?_
    refine E_icmp_ne (M := mX12_isNear) 77 73 (by decide) rfl dX12_isNear_70 (fun c4 => ?_) (fun c4 => ?_)
    · rw [if_neg c4] at h
      refine E_sub (M := mX12_isNear) (lv' := [(0, .ref 149), (1, .int x1), (2, .int x2), (4, .int x4)]) [0, 1, 2, 3] rfl ?_
      exact S_X12_isNear_77 hk14 x1 x2 x4 I L _ h
    · rw [if_pos c4] at h
      refine E_sub (M := mX12_isNear) (lv' := [(0, .ref 149), (1, .int x1), (2, .int x2), (4, .int x4)]) [0, 1, 2, 3] rfl ?_
      exact S_X12_isNear_73 hk14 x1 x2 x4 I L _ h
def f_X12_isNear_14 : Nat → Int32 → Int32 → Bool → Int32 → MI → ML → Option (Bool)
  | 0, _, _, _, _, _, _ => none
  | n + 1, x1, x2, x3, x4, I, L => Option.bind (ldI I 150 2143 1) fun v1 => if v1 ≤ x4 then (some x3) else (if x3 = true then (f_X12_isNear_73 (f_X12_isNear_14 n) x1 x2 x4 I L) else (Option.bind (f_X12_ofDoor x4 0 I L) fun v4 => if v4 = x1 then (Option.bind (f_X12_ofDoor x4 1 I L) fun v6 => if v6 = x2 then (f_X12_isNear_73 (f_X12_isNear_14 n) x1 x2 x4 I L) else (f_X12_isNear_51 (f_X12_isNear_14 n) x1 x2 x4 I L)) else (f_X12_isNear_51 (f_X12_isNear_14 n) x1 x2 x4 I L)))
set_option maxRecDepth 100000 in
theorem S_X12_isNear_14 {g : Gx} : ∀ (n : Nat) (x1 : Int32) (x2 : Int32) (x3 : Bool) (x4 : Int32) (I : MI) (L : ML) (res : Bool), f_X12_isNear_14 n x1 x2 x3 x4 I L = some res → E g 2 0 mX12_isNear 14 [(0, .ref 149), (1, .int x1), (2, .int x2), (3, .int (bI x3)), (4, .int x4)] [] (I, L) (.inl (some (.int (bI res)))) (I, L) := by
  intro n
  induction n with
  | zero =>
    intros
    rename_i h
    cases h
  | succ n ih =>
    intro x1 x2 x3 x4 I L res h
    rw [f_X12_isNear_14] at h
    refine E_iload (M := mX12_isNear) 16 rfl dX12_isNear_14 4 rfl ?_
    refine E_aload_n (M := mX12_isNear) 17 rfl dX12_isNear_16 rfl 0 rfl ?_
    refine E_gR (M := mX12_isNear) 150 20 rfl dX12_isNear_17 shc_149 fl_X12_13 rfl (by decide) (by decide) ?_
    refine E_iconst (M := mX12_isNear) (v := 1) 21 rfl dX12_isNear_20 (by decide) ?_
    replace h := Option.bind_eq_some_iff.mp h
    obtain ⟨v1, hv1, h⟩ := h
    refine E_ldI (M := mX12_isNear) 22 rfl dX12_isNear_21 shc_150 hv1 ?_
    refine E_icmp_ge (M := mX12_isNear) 85 25 (by decide) rfl dX12_isNear_22 (fun c2 => ?_) (fun c2 => ?_)
    · rw [if_pos c2] at h
      refine E_iload_n (M := mX12_isNear) 86 rfl dX12_isNear_85 rfl 3 rfl ?_
      cases h
      exact E_zret (M := mX12_isNear) (x := x3) rfl dX12_isNear_86
    · rw [if_neg c2] at h
      refine E_iload_n (M := mX12_isNear) 26 rfl dX12_isNear_25 rfl 3 rfl ?_
      refine E_if_neB (M := mX12_isNear) 73 29 (by decide) rfl dX12_isNear_26 (fun c3 => ?_) (fun c3 => ?_)
      · rw [if_pos c3] at h
        refine E_sub (M := mX12_isNear) (lv' := [(0, .ref 149), (1, .int x1), (2, .int x2), (4, .int x4)]) [0, 1, 2, 4] rfl ?_
        exact S_X12_isNear_73 ih x1 x2 x4 I L _ h
      · rw [if_neg (by rw [c3]; decide)] at h
        refine E_aload_n (M := mX12_isNear) 30 rfl dX12_isNear_29 rfl 0 rfl ?_
        refine E_iload (M := mX12_isNear) 32 rfl dX12_isNear_30 4 rfl ?_
        refine E_iconst (M := mX12_isNear) (v := 0) 33 rfl dX12_isNear_32 (by decide) ?_
        replace h := Option.bind_eq_some_iff.mp h
        obtain ⟨v4, hv4, h⟩ := h
        refine E_cV1 (M := mX12_isNear) (As := [.int x4, .int 0]) 36 rfl dX12_isNear_33 shc_149 ck_X12_249 cv_X12_ofDoor rfl (by decide) (Nat.le_of_ble_eq_true rfl) (C_X12_ofDoor (g := g) hv4) rfl ?_
        refine E_iload_n (M := mX12_isNear) 37 rfl dX12_isNear_36 rfl 1 rfl ?_
        refine E_icmp_ne (M := mX12_isNear) 51 40 (by decide) rfl dX12_isNear_37 (fun c5 => ?_) (fun c5 => ?_)
        · rw [if_neg c5] at h
          refine E_sub (M := mX12_isNear) (lv' := [(0, .ref 149), (1, .int x1), (2, .int x2), (4, .int x4)]) [0, 1, 2, 4] rfl ?_
          exact S_X12_isNear_51 ih x1 x2 x4 I L _ h
        · rw [if_pos c5] at h
          refine E_aload_n (M := mX12_isNear) 41 rfl dX12_isNear_40 rfl 0 rfl ?_
          refine E_iload (M := mX12_isNear) 43 rfl dX12_isNear_41 4 rfl ?_
          refine E_iconst (M := mX12_isNear) (v := 1) 44 rfl dX12_isNear_43 (by decide) ?_
          replace h := Option.bind_eq_some_iff.mp h
          obtain ⟨v6, hv6, h⟩ := h
          refine E_cV1 (M := mX12_isNear) (As := [.int x4, .int 1]) 47 rfl dX12_isNear_44 shc_149 ck_X12_249 cv_X12_ofDoor rfl (by decide) (Nat.le_of_ble_eq_true rfl) (C_X12_ofDoor (g := g) hv6) rfl ?_
          refine E_iload_n (M := mX12_isNear) 48 rfl dX12_isNear_47 rfl 2 rfl ?_
          refine E_icmp_eq (M := mX12_isNear) 73 51 (by decide) rfl dX12_isNear_48 (fun c7 => ?_) (fun c7 => ?_)
          · rw [if_pos c7] at h
            refine E_sub (M := mX12_isNear) (lv' := [(0, .ref 149), (1, .int x1), (2, .int x2), (4, .int x4)]) [0, 1, 2, 4] rfl ?_
            exact S_X12_isNear_73 ih x1 x2 x4 I L _ h
          · rw [if_neg c7] at h
            refine E_sub (M := mX12_isNear) (lv' := [(0, .ref 149), (1, .int x1), (2, .int x2), (4, .int x4)]) [0, 1, 2, 4] rfl ?_
            exact S_X12_isNear_51 ih x1 x2 x4 I L _ h
def f_X12_isNear_10 (x1 : Int32) (x2 : Int32) (y0 : Bool) (I : MI) (L : ML) : Option (Bool) := f_X12_isNear_14 FU x1 x2 y0 0 I L
set_option maxRecDepth 100000 in
theorem S_X12_isNear_10 {g : Gx} (x1 : Int32) (x2 : Int32) (y0 : Bool) (I : MI) (L : ML) (res : Bool) (h : f_X12_isNear_10 x1 x2 y0 I L = some res) : E g 2 0 mX12_isNear 10 [(0, .ref 149), (1, .int x1), (2, .int x2)] [.int (bI y0)] (I, L) (.inl (some (.int (bI res)))) (I, L) := by
  unfold f_X12_isNear_10 at h
  refine E_istore_n (M := mX12_isNear) (lv' := [(3, .int (bI y0)), (0, .ref 149), (1, .int x1), (2, .int x2)]) 11 rfl dX12_isNear_10 rfl (Nat.le_of_ble_eq_true rfl) rfl ?_
  refine E_iconst (M := mX12_isNear) (v := 0) 12 rfl dX12_isNear_11 (by decide) ?_
  refine E_istore (M := mX12_isNear) (lv' := [(4, .int 0), (3, .int (bI y0)), (0, .ref 149), (1, .int x1), (2, .int x2)]) 14 rfl dX12_isNear_12 (Nat.le_of_ble_eq_true rfl) rfl ?_
  refine E_sub (M := mX12_isNear) (lv' := [(0, .ref 149), (1, .int x1), (2, .int x2), (3, .int (bI y0)), (4, .int 0)]) [2, 3, 4, 1, 0] rfl ?_
  exact S_X12_isNear_14 FU x1 x2 y0 0 I L _ h
def f_X12_isNear (x1 : Int32) (x2 : Int32) (I : MI) (L : ML) : Option (Bool) := if x1 = x2 then (f_X12_isNear_10 x1 x2 true I L) else (f_X12_isNear_10 x1 x2 false I L)
set_option maxRecDepth 100000 in
theorem S_X12_isNear {g : Gx} (x1 : Int32) (x2 : Int32) (I : MI) (L : ML) (res : Bool) (h : f_X12_isNear x1 x2 I L = some res) : E g 2 0 mX12_isNear 0 [(0, .ref 149), (1, .int x1), (2, .int x2)] [] (I, L) (.inl (some (.int (bI res)))) (I, L) := by
  unfold f_X12_isNear at h
  refine E_iload_n (M := mX12_isNear) 1 rfl dX12_isNear_0 rfl 1 rfl ?_
  refine E_iload_n (M := mX12_isNear) 2 rfl dX12_isNear_1 rfl 2 rfl ?_
  refine E_icmp_ne (M := mX12_isNear) 9 5 (by decide) rfl dX12_isNear_2 (fun c1 => ?_) (fun c1 => ?_)
  · rw [if_neg c1] at h
    refine E_iconst (M := mX12_isNear) (v := 0) 10 rfl dX12_isNear_9 (by decide) ?_
    refine E_sub (M := mX12_isNear) (lv' := [(0, .ref 149), (1, .int x1), (2, .int x2)]) [0, 1, 2] rfl ?_
    exact S_X12_isNear_10 x1 x2 false I L _ h
  · rw [if_pos c1] at h
    refine E_iconst (M := mX12_isNear) (v := 1) 6 rfl dX12_isNear_5 (by decide) ?_
    refine E_goto (M := mX12_isNear) 10 (by decide) dX12_isNear_6 ?_
    refine E_sub (M := mX12_isNear) (lv' := [(0, .ref 149), (1, .int x1), (2, .int x2)]) [0, 1, 2] rfl ?_
    exact S_X12_isNear_10 x1 x2 true I L _ h
theorem C_X12_isNear {g : Gx} {x1 : Int32} {x2 : Int32} {I : MI} {L : ML} {res : Bool} (h : f_X12_isNear x1 x2 I L = some res) : Ent g 2 0 mX12_isNear [.ref 149, .int x1, .int x2] (I, L) (.inl (some (.int (bI res)))) (I, L) := Ent_of (by decide +kernel) (Nat.le_of_ble_eq_true rfl) (S_X12_isNear x1 x2 I L _ h)
def f_X12_suspects_163 (x3 : Int32) (I : MI) (L : ML) : Option (Int32 × MI × ML) := some (x3, I, L)
set_option maxRecDepth 100000 in
theorem S_X12_suspects_163 {g : Gx} (x3 : Int32) (I : MI) (L : ML) (res : Int32 × MI × ML) (h : f_X12_suspects_163 x3 I L = some res) : E g 3 0 mX12_suspects 163 [(3, .int x3)] [] (I, L) (.inl (some (.int res.1))) (res.2.1, res.2.2) := by
  unfold f_X12_suspects_163 at h
  refine E_iload_n (M := mX12_suspects) 164 rfl dX12_suspects_163 rfl 0 rfl ?_
  cases h
  exact E_iret (M := mX12_suspects) rfl dX12_suspects_164
def f_X12_suspects_149 (k92 : Int32 → Int32 → Int32 → Int32 → Int32 → MI → ML → Option (Int32 × MI × ML)) (x1 : Int32) (x2 : Int32) (x4 : Int32) (x5 : Int32) (y0 : Int32) (y1 : Int32) (I : MI) (L : ML) : Option (Int32 × MI × ML) := k92 x1 x2 (y0 ||| y1) x4 (x5 + 1) I L
set_option maxRecDepth 100000 in
theorem S_X12_suspects_149 {g : Gx} {k92 : Int32 → Int32 → Int32 → Int32 → Int32 → MI → ML → Option (Int32 × MI × ML)} (hk92 : ∀ (x1z : Int32) (x2z : Int32) (x3z : Int32) (x4z : Int32) (x5z : Int32) (I : MI) (L : ML) (res : Int32 × MI × ML), k92 x1z x2z x3z x4z x5z I L = some res → E g 3 0 mX12_suspects 92 [(0, .ref 149), (1, .int x1z), (2, .int x2z), (3, .int x3z), (4, .int x4z), (5, .int x5z)] [] (I, L) (.inl (some (.int res.1))) (res.2.1, res.2.2)) (x1 : Int32) (x2 : Int32) (x4 : Int32) (x5 : Int32) (y0 : Int32) (y1 : Int32) (I : MI) (L : ML) (res : Int32 × MI × ML) (h : f_X12_suspects_149 k92 x1 x2 x4 x5 y0 y1 I L = some res) : E g 3 0 mX12_suspects 149 [(0, .ref 149), (1, .int x1), (2, .int x2), (4, .int x4), (5, .int x5)] [.int y1, .int y0] (I, L) (.inl (some (.int res.1))) (res.2.1, res.2.2) := by
  unfold f_X12_suspects_149 at h
  refine E_ior (M := mX12_suspects) 150 rfl dX12_suspects_149 ?_
  refine E_istore_n (M := mX12_suspects) (lv' := [(3, .int (y0 ||| y1)), (0, .ref 149), (1, .int x1), (2, .int x2), (4, .int x4), (5, .int x5)]) 151 rfl dX12_suspects_150 rfl (Nat.le_of_ble_eq_true rfl) rfl ?_
  refine E_iinc (M := mX12_suspects) (j := 5) (v := x5 + 1) (lv' := [(5, .int (x5 + 1)), (3, .int (y0 ||| y1)), (0, .ref 149), (1, .int x1), (2, .int x2), (4, .int x4)]) 154 rfl dX12_suspects_151 rfl rfl (Nat.le_of_ble_eq_true rfl) rfl ?_
  refine E_goto (M := mX12_suspects) 92 (by decide) dX12_suspects_154 ?_
  refine E_sub (M := mX12_suspects) (lv' := [(0, .ref 149), (1, .int x1), (2, .int x2), (3, .int (y0 ||| y1)), (4, .int x4), (5, .int (x5 + 1))]) [2, 3, 4, 1, 5, 0] rfl ?_
  exact hk92 x1 x2 (y0 ||| y1) x4 (x5 + 1) I L _ h
def f_X12_suspects_148 (k92 : Int32 → Int32 → Int32 → Int32 → Int32 → MI → ML → Option (Int32 × MI × ML)) (x1 : Int32) (x2 : Int32) (x4 : Int32) (x5 : Int32) (y0 : Int32) (I : MI) (L : ML) : Option (Int32 × MI × ML) := f_X12_suspects_149 k92 x1 x2 x4 x5 y0 0 I L
set_option maxRecDepth 100000 in
theorem S_X12_suspects_148 {g : Gx} {k92 : Int32 → Int32 → Int32 → Int32 → Int32 → MI → ML → Option (Int32 × MI × ML)} (hk92 : ∀ (x1z : Int32) (x2z : Int32) (x3z : Int32) (x4z : Int32) (x5z : Int32) (I : MI) (L : ML) (res : Int32 × MI × ML), k92 x1z x2z x3z x4z x5z I L = some res → E g 3 0 mX12_suspects 92 [(0, .ref 149), (1, .int x1z), (2, .int x2z), (3, .int x3z), (4, .int x4z), (5, .int x5z)] [] (I, L) (.inl (some (.int res.1))) (res.2.1, res.2.2)) (x1 : Int32) (x2 : Int32) (x4 : Int32) (x5 : Int32) (y0 : Int32) (I : MI) (L : ML) (res : Int32 × MI × ML) (h : f_X12_suspects_148 k92 x1 x2 x4 x5 y0 I L = some res) : E g 3 0 mX12_suspects 148 [(0, .ref 149), (1, .int x1), (2, .int x2), (4, .int x4), (5, .int x5)] [.int y0] (I, L) (.inl (some (.int res.1))) (res.2.1, res.2.2) := by
  unfold f_X12_suspects_148 at h
  refine E_iconst (M := mX12_suspects) (v := 0) 149 rfl dX12_suspects_148 (by decide) ?_
  refine E_sub (M := mX12_suspects) (lv' := [(0, .ref 149), (1, .int x1), (2, .int x2), (4, .int x4), (5, .int x5)]) [0, 1, 2, 3, 4] rfl ?_
  exact S_X12_suspects_149 hk92 x1 x2 x4 x5 y0 0 I L _ h
def f_X12_suspects_92 (k71 : Int32 → Int32 → Int32 → Int32 → MI → ML → Option (Int32 × MI × ML)) : Nat → Int32 → Int32 → Int32 → Int32 → Int32 → MI → ML → Option (Int32 × MI × ML)
  | 0, _, _, _, _, _, _, _ => none
  | n + 1, x1, x2, x3, x4, x5, I, L => Option.bind (f_X12_heirs I L) fun v1 => if v1 ≤ x5 then (k71 x1 x2 x3 (x4 + 1) I L) else (Option.bind (ldI I 150 2143 ((205 + (6 * x4)) + x5)) fun v3 => if v3 < 0 then (f_X12_suspects_148 (f_X12_suspects_92 k71 n) x1 x2 x4 x5 x3 I L) else (Option.bind (f_X12_of x1 1 I L) fun v5 => Option.bind (f_X12_isNear v3 v5 I L) fun v6 => if v6 = true then (f_X12_suspects_149 (f_X12_suspects_92 k71 n) x1 x2 x4 x5 x3 (1 <<< (x5 &&& 31)) I L) else (f_X12_suspects_148 (f_X12_suspects_92 k71 n) x1 x2 x4 x5 x3 I L)))
set_option maxRecDepth 100000 in
theorem S_X12_suspects_92 {g : Gx} {k71 : Int32 → Int32 → Int32 → Int32 → MI → ML → Option (Int32 × MI × ML)} (hk71 : ∀ (x1z : Int32) (x2z : Int32) (x3z : Int32) (x4z : Int32) (I : MI) (L : ML) (res : Int32 × MI × ML), k71 x1z x2z x3z x4z I L = some res → E g 3 0 mX12_suspects 71 [(0, .ref 149), (1, .int x1z), (2, .int x2z), (3, .int x3z), (4, .int x4z)] [] (I, L) (.inl (some (.int res.1))) (res.2.1, res.2.2)) : ∀ (n : Nat) (x1 : Int32) (x2 : Int32) (x3 : Int32) (x4 : Int32) (x5 : Int32) (I : MI) (L : ML) (res : Int32 × MI × ML), f_X12_suspects_92 k71 n x1 x2 x3 x4 x5 I L = some res → E g 3 0 mX12_suspects 92 [(0, .ref 149), (1, .int x1), (2, .int x2), (3, .int x3), (4, .int x4), (5, .int x5)] [] (I, L) (.inl (some (.int res.1))) (res.2.1, res.2.2) := by
  intro n
  induction n with
  | zero =>
    intros
    rename_i h
    cases h
  | succ n ih =>
    intro x1 x2 x3 x4 x5 I L res h
    rw [f_X12_suspects_92] at h
    refine E_iload (M := mX12_suspects) 94 rfl dX12_suspects_92 5 rfl ?_
    refine E_aload_n (M := mX12_suspects) 95 rfl dX12_suspects_94 rfl 0 rfl ?_
    replace h := Option.bind_eq_some_iff.mp h
    obtain ⟨v1, hv1, h⟩ := h
    refine E_cV1 (M := mX12_suspects) (As := []) 98 rfl dX12_suspects_95 shc_149 ck_X12_64 cv_X12_heirs rfl (by decide) (Nat.le_of_ble_eq_true rfl) (C_X12_heirs (g := g) hv1) rfl ?_
    refine E_icmp_ge (M := mX12_suspects) 157 101 (by decide) rfl dX12_suspects_98 (fun c2 => ?_) (fun c2 => ?_)
    · rw [if_pos c2] at h
      refine E_iinc (M := mX12_suspects) (j := 4) (v := x4 + 1) (lv' := [(4, .int (x4 + 1)), (0, .ref 149), (1, .int x1), (2, .int x2), (3, .int x3), (5, .int x5)]) 160 rfl dX12_suspects_157 rfl rfl (Nat.le_of_ble_eq_true rfl) rfl ?_
      refine E_goto (M := mX12_suspects) 71 (by decide) dX12_suspects_160 ?_
      refine E_sub (M := mX12_suspects) (lv' := [(0, .ref 149), (1, .int x1), (2, .int x2), (3, .int x3), (4, .int (x4 + 1))]) [1, 2, 3, 4, 0] rfl ?_
      exact hk71 x1 x2 x3 (x4 + 1) I L _ h
    · rw [if_neg c2] at h
      refine E_aload_n (M := mX12_suspects) 102 rfl dX12_suspects_101 rfl 0 rfl ?_
      refine E_gR (M := mX12_suspects) 150 105 rfl dX12_suspects_102 shc_149 fl_X12_13 rfl (by decide) (by decide) ?_
      refine E_sipush (M := mX12_suspects) (v := 205) 108 rfl dX12_suspects_105 (by decide) ?_
      refine E_bipush (M := mX12_suspects) (v := 6) 110 rfl dX12_suspects_108 (by decide) ?_
      refine E_iload (M := mX12_suspects) 112 rfl dX12_suspects_110 4 rfl ?_
      refine E_imul (M := mX12_suspects) 113 rfl dX12_suspects_112 ?_
      refine E_iadd (M := mX12_suspects) 114 rfl dX12_suspects_113 ?_
      refine E_iload (M := mX12_suspects) 116 rfl dX12_suspects_114 5 rfl ?_
      refine E_iadd (M := mX12_suspects) 117 rfl dX12_suspects_116 ?_
      replace h := Option.bind_eq_some_iff.mp h
      obtain ⟨v3, hv3, h⟩ := h
      refine E_ldI (M := mX12_suspects) 118 rfl dX12_suspects_117 shc_150 hv3 ?_
      refine E_istore (M := mX12_suspects) (lv' := [(6, .int v3), (0, .ref 149), (1, .int x1), (2, .int x2), (3, .int x3), (4, .int x4), (5, .int x5)]) 120 rfl dX12_suspects_118 (Nat.le_of_ble_eq_true rfl) rfl ?_
      refine E_iload_n (M := mX12_suspects) 121 rfl dX12_suspects_120 rfl 4 rfl ?_
      refine E_iload (M := mX12_suspects) 123 rfl dX12_suspects_121 0 rfl ?_
      refine E_if_lt (M := mX12_suspects) 148 126 (by decide) rfl dX12_suspects_123 (fun c4 => ?_) (fun c4 => ?_)
      · rw [if_pos c4] at h
        refine E_sub (M := mX12_suspects) (lv' := [(0, .ref 149), (1, .int x1), (2, .int x2), (4, .int x4), (5, .int x5)]) [1, 2, 3, 5, 6] rfl ?_
        exact S_X12_suspects_148 ih x1 x2 x4 x5 x3 I L _ h
      · rw [if_neg c4] at h
        refine E_aload_n (M := mX12_suspects) 127 rfl dX12_suspects_126 rfl 1 rfl ?_
        refine E_iload (M := mX12_suspects) 129 rfl dX12_suspects_127 0 rfl ?_
        refine E_aload_n (M := mX12_suspects) 130 rfl dX12_suspects_129 rfl 1 rfl ?_
        refine E_iload_n (M := mX12_suspects) 131 rfl dX12_suspects_130 rfl 2 rfl ?_
        refine E_iconst (M := mX12_suspects) (v := 1) 132 rfl dX12_suspects_131 (by decide) ?_
        replace h := Option.bind_eq_some_iff.mp h
        obtain ⟨v5, hv5, h⟩ := h
        refine E_cV1 (M := mX12_suspects) (As := [.int x1, .int 1]) 135 rfl dX12_suspects_132 shc_149 ck_X12_260 cv_X12_of rfl (by decide) (Nat.le_of_ble_eq_true rfl) (C_X12_of (g := g) hv5) rfl ?_
        replace h := Option.bind_eq_some_iff.mp h
        obtain ⟨v6, hv6, h⟩ := h
        refine E_cV1 (M := mX12_suspects) (As := [.int v3, .int v5]) 138 rfl dX12_suspects_135 shc_149 ck_X12_354 cv_X12_isNear rfl (by decide) (Nat.le_of_ble_eq_true rfl) (C_X12_isNear (g := g) hv6) rfl ?_
        refine E_if_eqB (M := mX12_suspects) 148 141 (by decide) rfl dX12_suspects_138 (fun c7 => ?_) (fun c7 => ?_)
        · rw [if_neg (by rw [c7]; decide)] at h
          refine E_sub (M := mX12_suspects) (lv' := [(0, .ref 149), (1, .int x1), (2, .int x2), (4, .int x4), (5, .int x5)]) [1, 2, 3, 5, 6] rfl ?_
          exact S_X12_suspects_148 ih x1 x2 x4 x5 x3 I L _ h
        · rw [if_pos c7] at h
          refine E_iconst (M := mX12_suspects) (v := 1) 142 rfl dX12_suspects_141 (by decide) ?_
          refine E_iload (M := mX12_suspects) 144 rfl dX12_suspects_142 6 rfl ?_
          refine E_ishl (M := mX12_suspects) 145 rfl dX12_suspects_144 ?_
          refine E_goto (M := mX12_suspects) 149 (by decide) dX12_suspects_145 ?_
          refine E_sub (M := mX12_suspects) (lv' := [(0, .ref 149), (1, .int x1), (2, .int x2), (4, .int x4), (5, .int x5)]) [1, 2, 3, 5, 6] rfl ?_
          exact S_X12_suspects_149 ih x1 x2 x4 x5 x3 (1 <<< (x5 &&& 31)) I L _ h
def f_X12_suspects_71 : Nat → Int32 → Int32 → Int32 → Int32 → MI → ML → Option (Int32 × MI × ML)
  | 0, _, _, _, _, _, _ => none
  | n + 1, x1, x2, x3, x4, I, L => Option.bind (ldI I 150 2143 14) fun v1 => if v1 ≤ x4 then (f_X12_suspects_163 x3 I L) else (if x2 ≤ x4 then (f_X12_suspects_163 x3 I L) else (f_X12_suspects_92 (f_X12_suspects_71 n) FU x1 x2 x3 x4 0 I L))
set_option maxRecDepth 100000 in
theorem S_X12_suspects_71 {g : Gx} : ∀ (n : Nat) (x1 : Int32) (x2 : Int32) (x3 : Int32) (x4 : Int32) (I : MI) (L : ML) (res : Int32 × MI × ML), f_X12_suspects_71 n x1 x2 x3 x4 I L = some res → E g 3 0 mX12_suspects 71 [(0, .ref 149), (1, .int x1), (2, .int x2), (3, .int x3), (4, .int x4)] [] (I, L) (.inl (some (.int res.1))) (res.2.1, res.2.2) := by
  intro n
  induction n with
  | zero =>
    intros
    rename_i h
    cases h
  | succ n ih =>
    intro x1 x2 x3 x4 I L res h
    rw [f_X12_suspects_71] at h
    refine E_iload (M := mX12_suspects) 73 rfl dX12_suspects_71 4 rfl ?_
    refine E_aload_n (M := mX12_suspects) 74 rfl dX12_suspects_73 rfl 0 rfl ?_
    refine E_gR (M := mX12_suspects) 150 77 rfl dX12_suspects_74 shc_149 fl_X12_13 rfl (by decide) (by decide) ?_
    refine E_bipush (M := mX12_suspects) (v := 14) 79 rfl dX12_suspects_77 (by decide) ?_
    replace h := Option.bind_eq_some_iff.mp h
    obtain ⟨v1, hv1, h⟩ := h
    refine E_ldI (M := mX12_suspects) 80 rfl dX12_suspects_79 shc_150 hv1 ?_
    refine E_icmp_ge (M := mX12_suspects) 163 83 (by decide) rfl dX12_suspects_80 (fun c2 => ?_) (fun c2 => ?_)
    · rw [if_pos c2] at h
      refine E_sub (M := mX12_suspects) (lv' := [(3, .int x3)]) [3] rfl ?_
      exact S_X12_suspects_163 x3 I L _ h
    · rw [if_neg c2] at h
      refine E_iload (M := mX12_suspects) 85 rfl dX12_suspects_83 4 rfl ?_
      refine E_iload_n (M := mX12_suspects) 86 rfl dX12_suspects_85 rfl 2 rfl ?_
      refine E_icmp_ge (M := mX12_suspects) 163 89 (by decide) rfl dX12_suspects_86 (fun c3 => ?_) (fun c3 => ?_)
      · rw [if_pos c3] at h
        refine E_sub (M := mX12_suspects) (lv' := [(3, .int x3)]) [3] rfl ?_
        exact S_X12_suspects_163 x3 I L _ h
      · rw [if_neg c3] at h
        refine E_iconst (M := mX12_suspects) (v := 0) 90 rfl dX12_suspects_89 (by decide) ?_
        refine E_istore (M := mX12_suspects) (lv' := [(5, .int 0), (0, .ref 149), (1, .int x1), (2, .int x2), (3, .int x3), (4, .int x4)]) 92 rfl dX12_suspects_90 (Nat.le_of_ble_eq_true rfl) rfl ?_
        refine E_sub (M := mX12_suspects) (lv' := [(0, .ref 149), (1, .int x1), (2, .int x2), (3, .int x3), (4, .int x4), (5, .int 0)]) [1, 2, 3, 4, 5, 0] rfl ?_
        exact S_X12_suspects_92 ih FU x1 x2 x3 x4 0 I L _ h
def f_X12_suspects (x1 : Int32) (I : MI) (L : ML) : Option (Int32 × MI × ML) := Option.bind (pfI I 149 0 0) fun I1 => Option.bind (f_X12_noNoise x1 I1 L) fun v2 => Option.bind (f_X12_throwsIf v2 1 I1 L) fun w3 => if w3.1 = true then (some (0, w3.2.1, w3.2.2)) else (Option.bind (f_X12_of x1 7 w3.2.1 w3.2.2) fun v5 => if 0 ≤ v5 then (Option.bind (ldI w3.2.1 150 2143 6) fun v7 => Option.bind (ldI w3.2.1 150 2143 7) fun v8 => Option.bind (f_X12_of x1 7 w3.2.1 w3.2.2) fun v9 => f_X12_suspects_71 FU x1 (((24 * v7) + v8) - v9) 0 0 w3.2.1 w3.2.2) else (Option.bind (f_X12_heirs w3.2.1 w3.2.2) fun v10 => some ((1 <<< (v10 &&& 31)) - 1, w3.2.1, w3.2.2)))
set_option maxRecDepth 100000 in
theorem S_X12_suspects {g : Gx} (x1 : Int32) (I : MI) (L : ML) (res : Int32 × MI × ML) (h : f_X12_suspects x1 I L = some res) : E g 3 0 mX12_suspects 0 [(0, .ref 149), (1, .int x1)] [] (I, L) (.inl (some (.int res.1))) (res.2.1, res.2.2) := by
  unfold f_X12_suspects at h
  refine E_aload_n (M := mX12_suspects) 1 rfl dX12_suspects_0 rfl 0 rfl ?_
  refine E_iconst (M := mX12_suspects) (v := 0) 2 rfl dX12_suspects_1 (by decide) ?_
  replace h := Option.bind_eq_some_iff.mp h
  obtain ⟨I1, hI1, h⟩ := h
  refine E_pfI (M := mX12_suspects) 5 rfl dX12_suspects_2 shc_149 fl_X12_3 rfl hI1 ?_
  refine E_aload_n (M := mX12_suspects) 6 rfl dX12_suspects_5 rfl 0 rfl ?_
  refine E_aload_n (M := mX12_suspects) 7 rfl dX12_suspects_6 rfl 0 rfl ?_
  refine E_iload_n (M := mX12_suspects) 8 rfl dX12_suspects_7 rfl 1 rfl ?_
  replace h := Option.bind_eq_some_iff.mp h
  obtain ⟨v2, hv2, h⟩ := h
  refine E_cV1 (M := mX12_suspects) (As := [.int x1]) 11 rfl dX12_suspects_8 shc_149 ck_X12_304 cv_X12_noNoise rfl (by decide) (Nat.le_of_ble_eq_true rfl) (C_X12_noNoise (g := g) hv2) rfl ?_
  refine E_iconst (M := mX12_suspects) (v := 1) 12 rfl dX12_suspects_11 (by decide) ?_
  replace h := Option.bind_eq_some_iff.mp h
  obtain ⟨w3, hw3, h⟩ := h
  refine E_cV1 (M := mX12_suspects) (As := [.int (bI v2), .int 1]) 15 rfl dX12_suspects_12 shc_149 ck_X12_245 cv_X12_throwsIf rfl (by decide) (Nat.le_of_ble_eq_true rfl) (C_X12_throwsIf (g := g) hw3) rfl ?_
  refine E_if_eqB (M := mX12_suspects) 20 18 (by decide) rfl dX12_suspects_15 (fun c4 => ?_) (fun c4 => ?_)
  · rw [if_neg (by rw [c4]; decide)] at h
    refine E_aload_n (M := mX12_suspects) 21 rfl dX12_suspects_20 rfl 0 rfl ?_
    refine E_iload_n (M := mX12_suspects) 22 rfl dX12_suspects_21 rfl 1 rfl ?_
    refine E_bipush (M := mX12_suspects) (v := 7) 24 rfl dX12_suspects_22 (by decide) ?_
    replace h := Option.bind_eq_some_iff.mp h
    obtain ⟨v5, hv5, h⟩ := h
    refine E_cV1 (M := mX12_suspects) (As := [.int x1, .int 7]) 27 rfl dX12_suspects_24 shc_149 ck_X12_260 cv_X12_of rfl (by decide) (Nat.le_of_ble_eq_true rfl) (C_X12_of (g := g) hv5) rfl ?_
    refine E_if_ge (M := mX12_suspects) 39 30 (by decide) rfl dX12_suspects_27 (fun c6 => ?_) (fun c6 => ?_)
    · rw [if_pos c6] at h
      refine E_bipush (M := mX12_suspects) (v := 24) 41 rfl dX12_suspects_39 (by decide) ?_
      refine E_aload_n (M := mX12_suspects) 42 rfl dX12_suspects_41 rfl 0 rfl ?_
      refine E_gR (M := mX12_suspects) 150 45 rfl dX12_suspects_42 shc_149 fl_X12_13 rfl (by decide) (by decide) ?_
      refine E_bipush (M := mX12_suspects) (v := 6) 47 rfl dX12_suspects_45 (by decide) ?_
      replace h := Option.bind_eq_some_iff.mp h
      obtain ⟨v7, hv7, h⟩ := h
      refine E_ldI (M := mX12_suspects) 48 rfl dX12_suspects_47 shc_150 hv7 ?_
      refine E_imul (M := mX12_suspects) 49 rfl dX12_suspects_48 ?_
      refine E_aload_n (M := mX12_suspects) 50 rfl dX12_suspects_49 rfl 0 rfl ?_
      refine E_gR (M := mX12_suspects) 150 53 rfl dX12_suspects_50 shc_149 fl_X12_13 rfl (by decide) (by decide) ?_
      refine E_bipush (M := mX12_suspects) (v := 7) 55 rfl dX12_suspects_53 (by decide) ?_
      replace h := Option.bind_eq_some_iff.mp h
      obtain ⟨v8, hv8, h⟩ := h
      refine E_ldI (M := mX12_suspects) 56 rfl dX12_suspects_55 shc_150 hv8 ?_
      refine E_iadd (M := mX12_suspects) 57 rfl dX12_suspects_56 ?_
      refine E_aload_n (M := mX12_suspects) 58 rfl dX12_suspects_57 rfl 0 rfl ?_
      refine E_iload_n (M := mX12_suspects) 59 rfl dX12_suspects_58 rfl 1 rfl ?_
      refine E_bipush (M := mX12_suspects) (v := 7) 61 rfl dX12_suspects_59 (by decide) ?_
      replace h := Option.bind_eq_some_iff.mp h
      obtain ⟨v9, hv9, h⟩ := h
      refine E_cV1 (M := mX12_suspects) (As := [.int x1, .int 7]) 64 rfl dX12_suspects_61 shc_149 ck_X12_260 cv_X12_of rfl (by decide) (Nat.le_of_ble_eq_true rfl) (C_X12_of (g := g) hv9) rfl ?_
      refine E_isub (M := mX12_suspects) 65 rfl dX12_suspects_64 ?_
      refine E_istore_n (M := mX12_suspects) (lv' := [(2, .int (((24 * v7) + v8) - v9)), (0, .ref 149), (1, .int x1)]) 66 rfl dX12_suspects_65 rfl (Nat.le_of_ble_eq_true rfl) rfl ?_
      refine E_iconst (M := mX12_suspects) (v := 0) 67 rfl dX12_suspects_66 (by decide) ?_
      refine E_istore_n (M := mX12_suspects) (lv' := [(3, .int 0), (2, .int (((24 * v7) + v8) - v9)), (0, .ref 149), (1, .int x1)]) 68 rfl dX12_suspects_67 rfl (Nat.le_of_ble_eq_true rfl) rfl ?_
      refine E_iconst (M := mX12_suspects) (v := 0) 69 rfl dX12_suspects_68 (by decide) ?_
      refine E_istore (M := mX12_suspects) (lv' := [(4, .int 0), (3, .int 0), (2, .int (((24 * v7) + v8) - v9)), (0, .ref 149), (1, .int x1)]) 71 rfl dX12_suspects_69 (Nat.le_of_ble_eq_true rfl) rfl ?_
      refine E_sub (M := mX12_suspects) (lv' := [(0, .ref 149), (1, .int x1), (2, .int (((24 * v7) + v8) - v9)), (3, .int 0), (4, .int 0)]) [3, 4, 2, 1, 0] rfl ?_
      exact S_X12_suspects_71 FU x1 (((24 * v7) + v8) - v9) 0 0 w3.2.1 w3.2.2 _ h
    · rw [if_neg c6] at h
      refine E_iconst (M := mX12_suspects) (v := 1) 31 rfl dX12_suspects_30 (by decide) ?_
      refine E_aload_n (M := mX12_suspects) 32 rfl dX12_suspects_31 rfl 0 rfl ?_
      replace h := Option.bind_eq_some_iff.mp h
      obtain ⟨v10, hv10, h⟩ := h
      refine E_cV1 (M := mX12_suspects) (As := []) 35 rfl dX12_suspects_32 shc_149 ck_X12_64 cv_X12_heirs rfl (by decide) (Nat.le_of_ble_eq_true rfl) (C_X12_heirs (g := g) hv10) rfl ?_
      refine E_ishl (M := mX12_suspects) 36 rfl dX12_suspects_35 ?_
      refine E_iconst (M := mX12_suspects) (v := 1) 37 rfl dX12_suspects_36 (by decide) ?_
      refine E_isub (M := mX12_suspects) 38 rfl dX12_suspects_37 ?_
      cases h
      exact E_iret (M := mX12_suspects) rfl dX12_suspects_38
  · rw [if_pos c4] at h
    refine E_iconst (M := mX12_suspects) (v := 0) 19 rfl dX12_suspects_18 (by decide) ?_
    cases h
    exact E_iret (M := mX12_suspects) rfl dX12_suspects_19
theorem C_X12_suspects {g : Gx} {x1 : Int32} {I : MI} {L : ML} {res : Int32 × MI × ML} (h : f_X12_suspects x1 I L = some res) : Ent g 3 0 mX12_suspects [.ref 149, .int x1] (I, L) (.inl (some (.int res.1))) (res.2.1, res.2.2) := Ent_of (by decide +kernel) (Nat.le_of_ble_eq_true rfl) (S_X12_suspects x1 I L _ h)
def f_X12_isGhost_66 (k5 : Int32 → Int32 → Bool → Int32 → MI → ML → Option (Bool)) (x1 : Int32) (x2 : Int32) (x4 : Int32) (y0 : Bool) (I : MI) (L : ML) : Option (Bool) := k5 x1 x2 y0 (x4 + 2) I L
set_option maxRecDepth 100000 in
theorem S_X12_isGhost_66 {g : Gx} {k5 : Int32 → Int32 → Bool → Int32 → MI → ML → Option (Bool)} (hk5 : ∀ (x1z : Int32) (x2z : Int32) (x3z : Bool) (x4z : Int32) (I : MI) (L : ML) (res : Bool), k5 x1z x2z x3z x4z I L = some res → E g 5 0 mX12_isGhost 5 [(0, .ref 149), (1, .int x1z), (2, .int x2z), (3, .int (bI x3z)), (4, .int x4z)] [] (I, L) (.inl (some (.int (bI res)))) (I, L)) (x1 : Int32) (x2 : Int32) (x4 : Int32) (y0 : Bool) (I : MI) (L : ML) (res : Bool) (h : f_X12_isGhost_66 k5 x1 x2 x4 y0 I L = some res) : E g 5 0 mX12_isGhost 66 [(0, .ref 149), (1, .int x1), (2, .int x2), (4, .int x4)] [.int (bI y0)] (I, L) (.inl (some (.int (bI res)))) (I, L) := by
  unfold f_X12_isGhost_66 at h
  refine E_istore_n (M := mX12_isGhost) (lv' := [(3, .int (bI y0)), (0, .ref 149), (1, .int x1), (2, .int x2), (4, .int x4)]) 67 rfl dX12_isGhost_66 rfl (Nat.le_of_ble_eq_true rfl) rfl ?_
  refine E_iinc (M := mX12_isGhost) (j := 4) (v := x4 + 2) (lv' := [(4, .int (x4 + 2)), (3, .int (bI y0)), (0, .ref 149), (1, .int x1), (2, .int x2)]) 70 rfl dX12_isGhost_67 rfl rfl (Nat.le_of_ble_eq_true rfl) rfl ?_
  refine E_goto (M := mX12_isGhost) 5 (by decide) dX12_isGhost_70 ?_
  refine E_sub (M := mX12_isGhost) (lv' := [(0, .ref 149), (1, .int x1), (2, .int x2), (3, .int (bI y0)), (4, .int (x4 + 2))]) [2, 3, 4, 1, 0] rfl ?_
  exact hk5 x1 x2 y0 (x4 + 2) I L _ h
def f_X12_isGhost_65 (k5 : Int32 → Int32 → Bool → Int32 → MI → ML → Option (Bool)) (x1 : Int32) (x2 : Int32) (x4 : Int32) (I : MI) (L : ML) : Option (Bool) := f_X12_isGhost_66 k5 x1 x2 x4 false I L
set_option maxRecDepth 100000 in
theorem S_X12_isGhost_65 {g : Gx} {k5 : Int32 → Int32 → Bool → Int32 → MI → ML → Option (Bool)} (hk5 : ∀ (x1z : Int32) (x2z : Int32) (x3z : Bool) (x4z : Int32) (I : MI) (L : ML) (res : Bool), k5 x1z x2z x3z x4z I L = some res → E g 5 0 mX12_isGhost 5 [(0, .ref 149), (1, .int x1z), (2, .int x2z), (3, .int (bI x3z)), (4, .int x4z)] [] (I, L) (.inl (some (.int (bI res)))) (I, L)) (x1 : Int32) (x2 : Int32) (x4 : Int32) (I : MI) (L : ML) (res : Bool) (h : f_X12_isGhost_65 k5 x1 x2 x4 I L = some res) : E g 5 0 mX12_isGhost 65 [(0, .ref 149), (1, .int x1), (2, .int x2), (4, .int x4)] [] (I, L) (.inl (some (.int (bI res)))) (I, L) := by
  unfold f_X12_isGhost_65 at h
  refine E_iconst (M := mX12_isGhost) (v := 0) 66 rfl dX12_isGhost_65 (by decide) ?_
  refine E_sub (M := mX12_isGhost) (lv' := [(0, .ref 149), (1, .int x1), (2, .int x2), (4, .int x4)]) [0, 1, 2, 3] rfl ?_
  exact S_X12_isGhost_66 hk5 x1 x2 x4 false I L _ h
def f_X12_isGhost_5 : Nat → Int32 → Int32 → Bool → Int32 → MI → ML → Option (Bool)
  | 0, _, _, _, _, _, _ => none
  | n + 1, x1, x2, x3, x4, I, L => if (I 149 10) ≤ x4 then (some x3) else (if x3 = true then (Option.bind (ldI I 154 400 x4) fun v3 => Option.bind (f_X12_costOf x1 (v3 - 97) I L) fun v4 => Option.bind (ldI I 150 2143 (15 + x1)) fun v5 => Option.bind (ldI I 154 400 (x4 + 1)) fun v6 => if (if 0 < ((x2 - v4) - v5) then ((x2 - v4) - v5) else 0) = v6 then (f_X12_isGhost_66 (f_X12_isGhost_5 n) x1 x2 x4 true I L) else (f_X12_isGhost_65 (f_X12_isGhost_5 n) x1 x2 x4 I L)) else (f_X12_isGhost_65 (f_X12_isGhost_5 n) x1 x2 x4 I L))
set_option maxRecDepth 100000 in
theorem S_X12_isGhost_5 {g : Gx} : ∀ (n : Nat) (x1 : Int32) (x2 : Int32) (x3 : Bool) (x4 : Int32) (I : MI) (L : ML) (res : Bool), f_X12_isGhost_5 n x1 x2 x3 x4 I L = some res → E g 5 0 mX12_isGhost 5 [(0, .ref 149), (1, .int x1), (2, .int x2), (3, .int (bI x3)), (4, .int x4)] [] (I, L) (.inl (some (.int (bI res)))) (I, L) := by
  intro n
  induction n with
  | zero =>
    intros
    rename_i h
    cases h
  | succ n ih =>
    intro x1 x2 x3 x4 I L res h
    rw [f_X12_isGhost_5] at h
    refine E_iload (M := mX12_isGhost) 7 rfl dX12_isGhost_5 4 rfl ?_
    refine E_aload_n (M := mX12_isGhost) 8 rfl dX12_isGhost_7 rfl 0 rfl ?_
    refine E_gI (M := mX12_isGhost) 11 rfl dX12_isGhost_8 shc_149 fl_X12_76 rfl ?_
    refine E_icmp_ge (M := mX12_isGhost) 73 14 (by decide) rfl dX12_isGhost_11 (fun c1 => ?_) (fun c1 => ?_)
    · rw [if_pos c1] at h
      refine E_iload_n (M := mX12_isGhost) 74 rfl dX12_isGhost_73 rfl 3 rfl ?_
      cases h
      exact E_zret (M := mX12_isGhost) (x := x3) rfl dX12_isGhost_74
    · rw [if_neg c1] at h
      refine E_iload_n (M := mX12_isGhost) 15 rfl dX12_isGhost_14 rfl 3 rfl ?_
      refine E_if_eqB (M := mX12_isGhost) 65 18 (by decide) rfl dX12_isGhost_15 (fun c2 => ?_) (fun c2 => ?_)
      · rw [if_neg (by rw [c2]; decide)] at h
        refine E_sub (M := mX12_isGhost) (lv' := [(0, .ref 149), (1, .int x1), (2, .int x2), (4, .int x4)]) [0, 1, 2, 4] rfl ?_
        exact S_X12_isGhost_65 ih x1 x2 x4 I L _ h
      · rw [if_pos c2] at h
        refine E_iconst (M := mX12_isGhost) (v := 0) 19 rfl dX12_isGhost_18 (by decide) ?_
        refine E_iload_n (M := mX12_isGhost) 20 rfl dX12_isGhost_19 rfl 2 rfl ?_
        refine E_aload_n (M := mX12_isGhost) 21 rfl dX12_isGhost_20 rfl 0 rfl ?_
        refine E_iload_n (M := mX12_isGhost) 22 rfl dX12_isGhost_21 rfl 1 rfl ?_
        refine E_aload_n (M := mX12_isGhost) 23 rfl dX12_isGhost_22 rfl 0 rfl ?_
        refine E_gR (M := mX12_isGhost) 154 26 rfl dX12_isGhost_23 shc_149 fl_X12_26 rfl (by decide) (by decide) ?_
        refine E_iload (M := mX12_isGhost) 28 rfl dX12_isGhost_26 4 rfl ?_
        replace h := Option.bind_eq_some_iff.mp h
        obtain ⟨v3, hv3, h⟩ := h
        refine E_ldB (M := mX12_isGhost) 29 rfl dX12_isGhost_28 shc_154 hv3 ?_
        refine E_bipush (M := mX12_isGhost) (v := 97) 31 rfl dX12_isGhost_29 (by decide) ?_
        refine E_isub (M := mX12_isGhost) 32 rfl dX12_isGhost_31 ?_
        replace h := Option.bind_eq_some_iff.mp h
        obtain ⟨v4, hv4, h⟩ := h
        refine E_cV1 (M := mX12_isGhost) (As := [.int x1, .int (v3 - 97)]) 35 rfl dX12_isGhost_32 shc_149 ck_X12_252 cv_X12_costOf rfl (by decide) (Nat.le_of_ble_eq_true rfl) (C_X12_costOf (g := g) hv4) rfl ?_
        refine E_isub (M := mX12_isGhost) 36 rfl dX12_isGhost_35 ?_
        refine E_aload_n (M := mX12_isGhost) 37 rfl dX12_isGhost_36 rfl 0 rfl ?_
        refine E_gR (M := mX12_isGhost) 150 40 rfl dX12_isGhost_37 shc_149 fl_X12_13 rfl (by decide) (by decide) ?_
        refine E_bipush (M := mX12_isGhost) (v := 15) 42 rfl dX12_isGhost_40 (by decide) ?_
        refine E_iload_n (M := mX12_isGhost) 43 rfl dX12_isGhost_42 rfl 1 rfl ?_
        refine E_iadd (M := mX12_isGhost) 44 rfl dX12_isGhost_43 ?_
        replace h := Option.bind_eq_some_iff.mp h
        obtain ⟨v5, hv5, h⟩ := h
        refine E_ldI (M := mX12_isGhost) 45 rfl dX12_isGhost_44 shc_150 hv5 ?_
        refine E_isub (M := mX12_isGhost) 46 rfl dX12_isGhost_45 ?_
        refine E_max (M := mX12_isGhost) 49 rfl dX12_isGhost_46 jm_X12_263 (by decide) (Nat.le_of_ble_eq_true rfl) ?_
        refine E_aload_n (M := mX12_isGhost) 50 rfl dX12_isGhost_49 rfl 0 rfl ?_
        refine E_gR (M := mX12_isGhost) 154 53 rfl dX12_isGhost_50 shc_149 fl_X12_26 rfl (by decide) (by decide) ?_
        refine E_iload (M := mX12_isGhost) 55 rfl dX12_isGhost_53 4 rfl ?_
        refine E_iconst (M := mX12_isGhost) (v := 1) 56 rfl dX12_isGhost_55 (by decide) ?_
        refine E_iadd (M := mX12_isGhost) 57 rfl dX12_isGhost_56 ?_
        replace h := Option.bind_eq_some_iff.mp h
        obtain ⟨v6, hv6, h⟩ := h
        refine E_ldB (M := mX12_isGhost) 58 rfl dX12_isGhost_57 shc_154 hv6 ?_
        refine E_icmp_ne (M := mX12_isGhost) 65 61 (by decide) rfl dX12_isGhost_58 (fun c7 => ?_) (fun c7 => ?_)
        · rw [if_neg c7] at h
          refine E_sub (M := mX12_isGhost) (lv' := [(0, .ref 149), (1, .int x1), (2, .int x2), (4, .int x4)]) [0, 1, 2, 4] rfl ?_
          exact S_X12_isGhost_65 ih x1 x2 x4 I L _ h
        · rw [if_pos c7] at h
          refine E_iconst (M := mX12_isGhost) (v := 1) 62 rfl dX12_isGhost_61 (by decide) ?_
          refine E_goto (M := mX12_isGhost) 66 (by decide) dX12_isGhost_62 ?_
          refine E_sub (M := mX12_isGhost) (lv' := [(0, .ref 149), (1, .int x1), (2, .int x2), (4, .int x4)]) [0, 1, 2, 4] rfl ?_
          exact S_X12_isGhost_66 ih x1 x2 x4 true I L _ h
def f_X12_isGhost (x1 : Int32) (x2 : Int32) (I : MI) (L : ML) : Option (Bool) := f_X12_isGhost_5 FU x1 x2 true 0 I L
set_option maxRecDepth 100000 in
theorem S_X12_isGhost {g : Gx} (x1 : Int32) (x2 : Int32) (I : MI) (L : ML) (res : Bool) (h : f_X12_isGhost x1 x2 I L = some res) : E g 5 0 mX12_isGhost 0 [(0, .ref 149), (1, .int x1), (2, .int x2)] [] (I, L) (.inl (some (.int (bI res)))) (I, L) := by
  unfold f_X12_isGhost at h
  refine E_iconst (M := mX12_isGhost) (v := 1) 1 rfl dX12_isGhost_0 (by decide) ?_
  refine E_istore_n (M := mX12_isGhost) (lv' := [(3, .int 1), (0, .ref 149), (1, .int x1), (2, .int x2)]) 2 rfl dX12_isGhost_1 rfl (Nat.le_of_ble_eq_true rfl) rfl ?_
  refine E_iconst (M := mX12_isGhost) (v := 0) 3 rfl dX12_isGhost_2 (by decide) ?_
  refine E_istore (M := mX12_isGhost) (lv' := [(4, .int 0), (3, .int 1), (0, .ref 149), (1, .int x1), (2, .int x2)]) 5 rfl dX12_isGhost_3 (Nat.le_of_ble_eq_true rfl) rfl ?_
  refine E_sub (M := mX12_isGhost) (lv' := [(0, .ref 149), (1, .int x1), (2, .int x2), (3, .int 1), (4, .int 0)]) [2, 3, 4, 1, 0] rfl ?_
  exact S_X12_isGhost_5 FU x1 x2 true 0 I L _ h
theorem C_X12_isGhost {g : Gx} {x1 : Int32} {x2 : Int32} {I : MI} {L : ML} {res : Bool} (h : f_X12_isGhost x1 x2 I L = some res) : Ent g 5 0 mX12_isGhost [.ref 149, .int x1, .int x2] (I, L) (.inl (some (.int (bI res)))) (I, L) := Ent_of (by decide +kernel) (Nat.le_of_ble_eq_true rfl) (S_X12_isGhost x1 x2 I L _ h)
def f_X12_ghost_238 (y0 : Int32) (I : MI) (L : ML) : Option (Int32 × MI × ML) := some (y0, I, L)
set_option maxRecDepth 100000 in
theorem S_X12_ghost_238 {g : Gx} (y0 : Int32) (I : MI) (L : ML) (res : Int32 × MI × ML) (h : f_X12_ghost_238 y0 I L = some res) : E g 6 0 mX12_ghost 238 [] [.int y0] (I, L) (.inl (some (.int res.1))) (res.2.1, res.2.2) := by
  unfold f_X12_ghost_238 at h
  cases h
  exact E_iret (M := mX12_ghost) rfl dX12_ghost_238
def f_X12_ghost_216 (k168 : Int32 → Int32 → Int32 → Int32 → Int32 → MI → ML → Option (Int32 × MI × ML)) (x1 : Int32) (x3 : Int32) (x4 : Int32) (x5 : Int32) (x6 : Int32) (I : MI) (L : ML) : Option (Int32 × MI × ML) := k168 x1 x3 x4 x5 (x6 + 1) I L
set_option maxRecDepth 100000 in
theorem S_X12_ghost_216 {g : Gx} {k168 : Int32 → Int32 → Int32 → Int32 → Int32 → MI → ML → Option (Int32 × MI × ML)} (hk168 : ∀ (x1z : Int32) (x3z : Int32) (x4z : Int32) (x5z : Int32) (x6z : Int32) (I : MI) (L : ML) (res : Int32 × MI × ML), k168 x1z x3z x4z x5z x6z I L = some res → E g 6 0 mX12_ghost 168 [(0, .ref 149), (1, .int x1z), (3, .int x3z), (4, .int x4z), (5, .int x5z), (6, .int x6z)] [] (I, L) (.inl (some (.int res.1))) (res.2.1, res.2.2)) (x1 : Int32) (x3 : Int32) (x4 : Int32) (x5 : Int32) (x6 : Int32) (I : MI) (L : ML) (res : Int32 × MI × ML) (h : f_X12_ghost_216 k168 x1 x3 x4 x5 x6 I L = some res) : E g 6 0 mX12_ghost 216 [(0, .ref 149), (1, .int x1), (3, .int x3), (4, .int x4), (5, .int x5), (6, .int x6)] [] (I, L) (.inl (some (.int res.1))) (res.2.1, res.2.2) := by
  unfold f_X12_ghost_216 at h
  refine E_iinc (M := mX12_ghost) (j := 5) (v := x6 + 1) (lv' := [(6, .int (x6 + 1)), (0, .ref 149), (1, .int x1), (3, .int x3), (4, .int x4), (5, .int x5)]) 219 rfl dX12_ghost_216 rfl rfl (Nat.le_of_ble_eq_true rfl) rfl ?_
  refine E_goto (M := mX12_ghost) 168 (by decide) dX12_ghost_219 ?_
  refine E_sub (M := mX12_ghost) (lv' := [(0, .ref 149), (1, .int x1), (3, .int x3), (4, .int x4), (5, .int x5), (6, .int (x6 + 1))]) [1, 2, 3, 4, 5, 0] rfl ?_
  exact hk168 x1 x3 x4 x5 (x6 + 1) I L _ h
def f_X12_ghost_211 (k168 : Int32 → Int32 → Int32 → Int32 → Int32 → MI → ML → Option (Int32 × MI × ML)) (x1 : Int32) (x3 : Int32) (x5 : Int32) (x6 : Int32) (y0 : Int32) (I : MI) (L : ML) : Option (Int32 × MI × ML) := f_X12_ghost_216 k168 x1 (x3 + 1) y0 x5 x6 I L
set_option maxRecDepth 100000 in
theorem S_X12_ghost_211 {g : Gx} {k168 : Int32 → Int32 → Int32 → Int32 → Int32 → MI → ML → Option (Int32 × MI × ML)} (hk168 : ∀ (x1z : Int32) (x3z : Int32) (x4z : Int32) (x5z : Int32) (x6z : Int32) (I : MI) (L : ML) (res : Int32 × MI × ML), k168 x1z x3z x4z x5z x6z I L = some res → E g 6 0 mX12_ghost 168 [(0, .ref 149), (1, .int x1z), (3, .int x3z), (4, .int x4z), (5, .int x5z), (6, .int x6z)] [] (I, L) (.inl (some (.int res.1))) (res.2.1, res.2.2)) (x1 : Int32) (x3 : Int32) (x5 : Int32) (x6 : Int32) (y0 : Int32) (I : MI) (L : ML) (res : Int32 × MI × ML) (h : f_X12_ghost_211 k168 x1 x3 x5 x6 y0 I L = some res) : E g 6 0 mX12_ghost 211 [(0, .ref 149), (1, .int x1), (3, .int x3), (5, .int x5), (6, .int x6)] [.int y0] (I, L) (.inl (some (.int res.1))) (res.2.1, res.2.2) := by
  unfold f_X12_ghost_211 at h
  refine E_istore (M := mX12_ghost) (lv' := [(4, .int y0), (0, .ref 149), (1, .int x1), (3, .int x3), (5, .int x5), (6, .int x6)]) 213 rfl dX12_ghost_211 (Nat.le_of_ble_eq_true rfl) rfl ?_
  refine E_iinc (M := mX12_ghost) (j := 3) (v := x3 + 1) (lv' := [(3, .int (x3 + 1)), (4, .int y0), (0, .ref 149), (1, .int x1), (5, .int x5), (6, .int x6)]) 216 rfl dX12_ghost_213 rfl rfl (Nat.le_of_ble_eq_true rfl) rfl ?_
  refine E_sub (M := mX12_ghost) (lv' := [(0, .ref 149), (1, .int x1), (3, .int (x3 + 1)), (4, .int y0), (5, .int x5), (6, .int x6)]) [2, 3, 0, 1, 4, 5] rfl ?_
  exact S_X12_ghost_216 hk168 x1 (x3 + 1) y0 x5 x6 I L _ h
def f_X12_ghost_168 (k156 : Int32 → Int32 → Int32 → Int32 → MI → ML → Option (Int32 × MI × ML)) : Nat → Int32 → Int32 → Int32 → Int32 → Int32 → MI → ML → Option (Int32 × MI × ML)
  | 0, _, _, _, _, _, _, _ => none
  | n + 1, x1, x3, x4, x5, x6, I, L => if 99 < x6 then (k156 x1 x3 x4 (x5 + 1) I L) else (Option.bind (f_X12_isGhost x5 x6 I L) fun v2 => if v2 = true then (if 0 ≤ x4 then (f_X12_ghost_211 (f_X12_ghost_168 k156 n) x1 x3 x5 x6 x4 I L) else (if x1 = 1 then (f_X12_ghost_211 (f_X12_ghost_168 k156 n) x1 x3 x5 x6 x5 I L) else (f_X12_ghost_211 (f_X12_ghost_168 k156 n) x1 x3 x5 x6 x6 I L))) else (f_X12_ghost_216 (f_X12_ghost_168 k156 n) x1 x3 x4 x5 x6 I L))
set_option maxRecDepth 100000 in
theorem S_X12_ghost_168 {g : Gx} {k156 : Int32 → Int32 → Int32 → Int32 → MI → ML → Option (Int32 × MI × ML)} (hk156 : ∀ (x1z : Int32) (x3z : Int32) (x4z : Int32) (x5z : Int32) (I : MI) (L : ML) (res : Int32 × MI × ML), k156 x1z x3z x4z x5z I L = some res → E g 6 0 mX12_ghost 156 [(0, .ref 149), (1, .int x1z), (3, .int x3z), (4, .int x4z), (5, .int x5z)] [] (I, L) (.inl (some (.int res.1))) (res.2.1, res.2.2)) : ∀ (n : Nat) (x1 : Int32) (x3 : Int32) (x4 : Int32) (x5 : Int32) (x6 : Int32) (I : MI) (L : ML) (res : Int32 × MI × ML), f_X12_ghost_168 k156 n x1 x3 x4 x5 x6 I L = some res → E g 6 0 mX12_ghost 168 [(0, .ref 149), (1, .int x1), (3, .int x3), (4, .int x4), (5, .int x5), (6, .int x6)] [] (I, L) (.inl (some (.int res.1))) (res.2.1, res.2.2) := by
  intro n
  induction n with
  | zero =>
    intros
    rename_i h
    cases h
  | succ n ih =>
    intro x1 x3 x4 x5 x6 I L res h
    rw [f_X12_ghost_168] at h
    refine E_iload (M := mX12_ghost) 170 rfl dX12_ghost_168 5 rfl ?_
    refine E_bipush (M := mX12_ghost) (v := 99) 172 rfl dX12_ghost_170 (by decide) ?_
    refine E_icmp_gt (M := mX12_ghost) 222 175 (by decide) rfl dX12_ghost_172 (fun c1 => ?_) (fun c1 => ?_)
    · rw [if_pos c1] at h
      refine E_iinc (M := mX12_ghost) (j := 4) (v := x5 + 1) (lv' := [(5, .int (x5 + 1)), (0, .ref 149), (1, .int x1), (3, .int x3), (4, .int x4), (6, .int x6)]) 225 rfl dX12_ghost_222 rfl rfl (Nat.le_of_ble_eq_true rfl) rfl ?_
      refine E_goto (M := mX12_ghost) 156 (by decide) dX12_ghost_225 ?_
      refine E_sub (M := mX12_ghost) (lv' := [(0, .ref 149), (1, .int x1), (3, .int x3), (4, .int x4), (5, .int (x5 + 1))]) [1, 2, 3, 4, 0] rfl ?_
      exact hk156 x1 x3 x4 (x5 + 1) I L _ h
    · rw [if_neg c1] at h
      refine E_aload_n (M := mX12_ghost) 176 rfl dX12_ghost_175 rfl 0 rfl ?_
      refine E_iload (M := mX12_ghost) 178 rfl dX12_ghost_176 4 rfl ?_
      refine E_iload (M := mX12_ghost) 180 rfl dX12_ghost_178 5 rfl ?_
      replace h := Option.bind_eq_some_iff.mp h
      obtain ⟨v2, hv2, h⟩ := h
      refine E_cV1 (M := mX12_ghost) (As := [.int x5, .int x6]) 183 rfl dX12_ghost_180 shc_149 ck_X12_357 cv_X12_isGhost rfl (by decide) (Nat.le_of_ble_eq_true rfl) (C_X12_isGhost (g := g) hv2) rfl ?_
      refine E_if_neB (M := mX12_ghost) 189 186 (by decide) rfl dX12_ghost_183 (fun c3 => ?_) (fun c3 => ?_)
      · rw [if_pos c3] at h
        refine E_iload (M := mX12_ghost) 191 rfl dX12_ghost_189 3 rfl ?_
        refine E_if_ge (M := mX12_ghost) 209 194 (by decide) rfl dX12_ghost_191 (fun c4 => ?_) (fun c4 => ?_)
        · rw [if_pos c4] at h
          refine E_iload (M := mX12_ghost) 211 rfl dX12_ghost_209 3 rfl ?_
          refine E_sub (M := mX12_ghost) (lv' := [(0, .ref 149), (1, .int x1), (3, .int x3), (5, .int x5), (6, .int x6)]) [0, 1, 2, 4, 5] rfl ?_
          exact S_X12_ghost_211 ih x1 x3 x5 x6 x4 I L _ h
        · rw [if_neg c4] at h
          refine E_iload_n (M := mX12_ghost) 195 rfl dX12_ghost_194 rfl 1 rfl ?_
          refine E_iconst (M := mX12_ghost) (v := 1) 196 rfl dX12_ghost_195 (by decide) ?_
          refine E_icmp_ne (M := mX12_ghost) 204 199 (by decide) rfl dX12_ghost_196 (fun c5 => ?_) (fun c5 => ?_)
          · rw [if_neg c5] at h
            refine E_iload (M := mX12_ghost) 206 rfl dX12_ghost_204 5 rfl ?_
            refine E_goto (M := mX12_ghost) 211 (by decide) dX12_ghost_206 ?_
            refine E_sub (M := mX12_ghost) (lv' := [(0, .ref 149), (1, .int x1), (3, .int x3), (5, .int x5), (6, .int x6)]) [0, 1, 2, 4, 5] rfl ?_
            exact S_X12_ghost_211 ih x1 x3 x5 x6 x6 I L _ h
          · rw [if_pos c5] at h
            refine E_iload (M := mX12_ghost) 201 rfl dX12_ghost_199 4 rfl ?_
            refine E_goto (M := mX12_ghost) 211 (by decide) dX12_ghost_201 ?_
            refine E_sub (M := mX12_ghost) (lv' := [(0, .ref 149), (1, .int x1), (3, .int x3), (5, .int x5), (6, .int x6)]) [0, 1, 2, 4, 5] rfl ?_
            exact S_X12_ghost_211 ih x1 x3 x5 x6 x5 I L _ h
      · rw [if_neg (by rw [c3]; decide)] at h
        refine E_goto (M := mX12_ghost) 216 (by decide) dX12_ghost_186 ?_
        refine E_sub (M := mX12_ghost) (lv' := [(0, .ref 149), (1, .int x1), (3, .int x3), (4, .int x4), (5, .int x5), (6, .int x6)]) [0, 1, 2, 3, 4, 5] rfl ?_
        exact S_X12_ghost_216 ih x1 x3 x4 x5 x6 I L _ h
def f_X12_ghost_156 : Nat → Int32 → Int32 → Int32 → Int32 → MI → ML → Option (Int32 × MI × ML)
  | 0, _, _, _, _, _, _ => none
  | n + 1, x1, x3, x4, x5, I, L => Option.bind (f_X12_rooms I L) fun v1 => if v1 ≤ x5 then (if x1 = 0 then (f_X12_ghost_238 x3 I L) else (f_X12_ghost_238 x4 I L)) else (f_X12_ghost_168 (f_X12_ghost_156 n) FU x1 x3 x4 x5 1 I L)
set_option maxRecDepth 100000 in
theorem S_X12_ghost_156 {g : Gx} : ∀ (n : Nat) (x1 : Int32) (x3 : Int32) (x4 : Int32) (x5 : Int32) (I : MI) (L : ML) (res : Int32 × MI × ML), f_X12_ghost_156 n x1 x3 x4 x5 I L = some res → E g 6 0 mX12_ghost 156 [(0, .ref 149), (1, .int x1), (3, .int x3), (4, .int x4), (5, .int x5)] [] (I, L) (.inl (some (.int res.1))) (res.2.1, res.2.2) := by
  intro n
  induction n with
  | zero =>
    intros
    rename_i h
    cases h
  | succ n ih =>
    intro x1 x3 x4 x5 I L res h
    rw [f_X12_ghost_156] at h
    refine E_iload (M := mX12_ghost) 158 rfl dX12_ghost_156 4 rfl ?_
    refine E_aload_n (M := mX12_ghost) 159 rfl dX12_ghost_158 rfl 0 rfl ?_
    replace h := Option.bind_eq_some_iff.mp h
    obtain ⟨v1, hv1, h⟩ := h
    refine E_cV1 (M := mX12_ghost) (As := []) 162 rfl dX12_ghost_159 shc_149 ck_X12_56 cv_X12_rooms rfl (by decide) (Nat.le_of_ble_eq_true rfl) (C_X12_rooms (g := g) hv1) rfl ?_
    refine E_icmp_ge (M := mX12_ghost) 228 165 (by decide) rfl dX12_ghost_162 (fun c2 => ?_) (fun c2 => ?_)
    · rw [if_pos c2] at h
      refine E_iload_n (M := mX12_ghost) 229 rfl dX12_ghost_228 rfl 1 rfl ?_
      refine E_if_ne (M := mX12_ghost) 236 232 (by decide) rfl dX12_ghost_229 (fun c3 => ?_) (fun c3 => ?_)
      · rw [if_neg c3] at h
        refine E_iload (M := mX12_ghost) 238 rfl dX12_ghost_236 3 rfl ?_
        refine E_sub (M := mX12_ghost) (lv' := []) [] rfl ?_
        exact S_X12_ghost_238 x4 I L _ h
      · rw [if_pos c3] at h
        refine E_iload_n (M := mX12_ghost) 233 rfl dX12_ghost_232 rfl 2 rfl ?_
        refine E_goto (M := mX12_ghost) 238 (by decide) dX12_ghost_233 ?_
        refine E_sub (M := mX12_ghost) (lv' := []) [] rfl ?_
        exact S_X12_ghost_238 x3 I L _ h
    · rw [if_neg c2] at h
      refine E_iconst (M := mX12_ghost) (v := 1) 166 rfl dX12_ghost_165 (by decide) ?_
      refine E_istore (M := mX12_ghost) (lv' := [(6, .int 1), (0, .ref 149), (1, .int x1), (3, .int x3), (4, .int x4), (5, .int x5)]) 168 rfl dX12_ghost_166 (Nat.le_of_ble_eq_true rfl) rfl ?_
      refine E_sub (M := mX12_ghost) (lv' := [(0, .ref 149), (1, .int x1), (3, .int x3), (4, .int x4), (5, .int x5), (6, .int 1)]) [1, 2, 3, 4, 5, 0] rfl ?_
      exact S_X12_ghost_168 ih FU x1 x3 x4 x5 1 I L _ h
def f_X12_ghost_135 (x1 : Int32) (y1 : Bool) (I : MI) (L : ML) : Option (Int32 × MI × ML) := Option.bind (f_X12_throwsIf y1 2 I L) fun w1 => if w1.1 = true then (some (0, w1.2.1, w1.2.2)) else (Option.bind (f_X12_spreads w1.2.1 w1.2.2) fun w3 => f_X12_ghost_156 FU x1 0 ((-1)) 0 w3.1 w3.2)
set_option maxRecDepth 100000 in
theorem S_X12_ghost_135 {g : Gx} (x1 : Int32) (y1 : Bool) (I : MI) (L : ML) (res : Int32 × MI × ML) (h : f_X12_ghost_135 x1 y1 I L = some res) : E g 6 0 mX12_ghost 135 [(0, .ref 149), (1, .int x1)] [.int (bI y1), .ref 149] (I, L) (.inl (some (.int res.1))) (res.2.1, res.2.2) := by
  unfold f_X12_ghost_135 at h
  refine E_iconst (M := mX12_ghost) (v := 2) 136 rfl dX12_ghost_135 (by decide) ?_
  replace h := Option.bind_eq_some_iff.mp h
  obtain ⟨w1, hw1, h⟩ := h
  refine E_cV1 (M := mX12_ghost) (As := [.int (bI y1), .int 2]) 139 rfl dX12_ghost_136 shc_149 ck_X12_245 cv_X12_throwsIf rfl (by decide) (Nat.le_of_ble_eq_true rfl) (C_X12_throwsIf (g := g) hw1) rfl ?_
  refine E_if_eqB (M := mX12_ghost) 144 142 (by decide) rfl dX12_ghost_139 (fun c2 => ?_) (fun c2 => ?_)
  · rw [if_neg (by rw [c2]; decide)] at h
    refine E_aload_n (M := mX12_ghost) 145 rfl dX12_ghost_144 rfl 0 rfl ?_
    replace h := Option.bind_eq_some_iff.mp h
    obtain ⟨w3, hw3, h⟩ := h
    refine E_cV0 (M := mX12_ghost) (As := []) 148 rfl dX12_ghost_145 shc_149 ck_X12_298 cv_X12_spreads rfl (by decide) (Nat.le_of_ble_eq_true rfl) (C_X12_spreads (g := g) hw3) rfl ?_
    refine E_iconst (M := mX12_ghost) (v := 0) 149 rfl dX12_ghost_148 (by decide) ?_
    refine E_istore_n (M := mX12_ghost) (lv' := [(3, .int 0), (0, .ref 149), (1, .int x1)]) 150 rfl dX12_ghost_149 rfl (Nat.le_of_ble_eq_true rfl) rfl ?_
    refine E_iconst (M := mX12_ghost) (v := (-1)) 151 rfl dX12_ghost_150 (by decide) ?_
    refine E_istore (M := mX12_ghost) (lv' := [(4, .int ((-1))), (3, .int 0), (0, .ref 149), (1, .int x1)]) 153 rfl dX12_ghost_151 (Nat.le_of_ble_eq_true rfl) rfl ?_
    refine E_iconst (M := mX12_ghost) (v := 0) 154 rfl dX12_ghost_153 (by decide) ?_
    refine E_istore (M := mX12_ghost) (lv' := [(5, .int 0), (4, .int ((-1))), (3, .int 0), (0, .ref 149), (1, .int x1)]) 156 rfl dX12_ghost_154 (Nat.le_of_ble_eq_true rfl) rfl ?_
    refine E_sub (M := mX12_ghost) (lv' := [(0, .ref 149), (1, .int x1), (3, .int 0), (4, .int ((-1))), (5, .int 0)]) [3, 4, 2, 1, 0] rfl ?_
    exact S_X12_ghost_156 FU x1 0 ((-1)) 0 w3.1 w3.2 _ h
  · rw [if_pos c2] at h
    refine E_iconst (M := mX12_ghost) (v := 0) 143 rfl dX12_ghost_142 (by decide) ?_
    cases h
    exact E_iret (M := mX12_ghost) rfl dX12_ghost_143
def f_X12_ghost_118 (k61 : Int32 → Bool → Int32 → MI → ML → Option (Int32 × MI × ML)) (x1 : Int32) (x3 : Int32) (y0 : Bool) (I : MI) (L : ML) : Option (Int32 × MI × ML) := k61 x1 y0 (x3 + 1) I L
set_option maxRecDepth 100000 in
theorem S_X12_ghost_118 {g : Gx} {k61 : Int32 → Bool → Int32 → MI → ML → Option (Int32 × MI × ML)} (hk61 : ∀ (x1z : Int32) (x2z : Bool) (x3z : Int32) (I : MI) (L : ML) (res : Int32 × MI × ML), k61 x1z x2z x3z I L = some res → E g 6 0 mX12_ghost 61 [(0, .ref 149), (1, .int x1z), (2, .int (bI x2z)), (3, .int x3z)] [] (I, L) (.inl (some (.int res.1))) (res.2.1, res.2.2)) (x1 : Int32) (x3 : Int32) (y0 : Bool) (I : MI) (L : ML) (res : Int32 × MI × ML) (h : f_X12_ghost_118 k61 x1 x3 y0 I L = some res) : E g 6 0 mX12_ghost 118 [(0, .ref 149), (1, .int x1), (3, .int x3)] [.int (bI y0)] (I, L) (.inl (some (.int res.1))) (res.2.1, res.2.2) := by
  unfold f_X12_ghost_118 at h
  refine E_istore_n (M := mX12_ghost) (lv' := [(2, .int (bI y0)), (0, .ref 149), (1, .int x1), (3, .int x3)]) 119 rfl dX12_ghost_118 rfl (Nat.le_of_ble_eq_true rfl) rfl ?_
  refine E_iinc (M := mX12_ghost) (j := 3) (v := x3 + 1) (lv' := [(3, .int (x3 + 1)), (2, .int (bI y0)), (0, .ref 149), (1, .int x1)]) 122 rfl dX12_ghost_119 rfl rfl (Nat.le_of_ble_eq_true rfl) rfl ?_
  refine E_goto (M := mX12_ghost) 61 (by decide) dX12_ghost_122 ?_
  refine E_sub (M := mX12_ghost) (lv' := [(0, .ref 149), (1, .int x1), (2, .int (bI y0)), (3, .int (x3 + 1))]) [2, 3, 1, 0] rfl ?_
  exact hk61 x1 y0 (x3 + 1) I L _ h
def f_X12_ghost_117 (k61 : Int32 → Bool → Int32 → MI → ML → Option (Int32 × MI × ML)) (x1 : Int32) (x3 : Int32) (I : MI) (L : ML) : Option (Int32 × MI × ML) := f_X12_ghost_118 k61 x1 x3 false I L
set_option maxRecDepth 100000 in
theorem S_X12_ghost_117 {g : Gx} {k61 : Int32 → Bool → Int32 → MI → ML → Option (Int32 × MI × ML)} (hk61 : ∀ (x1z : Int32) (x2z : Bool) (x3z : Int32) (I : MI) (L : ML) (res : Int32 × MI × ML), k61 x1z x2z x3z I L = some res → E g 6 0 mX12_ghost 61 [(0, .ref 149), (1, .int x1z), (2, .int (bI x2z)), (3, .int x3z)] [] (I, L) (.inl (some (.int res.1))) (res.2.1, res.2.2)) (x1 : Int32) (x3 : Int32) (I : MI) (L : ML) (res : Int32 × MI × ML) (h : f_X12_ghost_117 k61 x1 x3 I L = some res) : E g 6 0 mX12_ghost 117 [(0, .ref 149), (1, .int x1), (3, .int x3)] [] (I, L) (.inl (some (.int res.1))) (res.2.1, res.2.2) := by
  unfold f_X12_ghost_117 at h
  refine E_iconst (M := mX12_ghost) (v := 0) 118 rfl dX12_ghost_117 (by decide) ?_
  refine E_sub (M := mX12_ghost) (lv' := [(0, .ref 149), (1, .int x1), (3, .int x3)]) [0, 1, 2] rfl ?_
  exact S_X12_ghost_118 hk61 x1 x3 false I L _ h
def f_X12_ghost_113 (k61 : Int32 → Bool → Int32 → MI → ML → Option (Int32 × MI × ML)) (x1 : Int32) (x3 : Int32) (I : MI) (L : ML) : Option (Int32 × MI × ML) := f_X12_ghost_118 k61 x1 x3 true I L
set_option maxRecDepth 100000 in
theorem S_X12_ghost_113 {g : Gx} {k61 : Int32 → Bool → Int32 → MI → ML → Option (Int32 × MI × ML)} (hk61 : ∀ (x1z : Int32) (x2z : Bool) (x3z : Int32) (I : MI) (L : ML) (res : Int32 × MI × ML), k61 x1z x2z x3z I L = some res → E g 6 0 mX12_ghost 61 [(0, .ref 149), (1, .int x1z), (2, .int (bI x2z)), (3, .int x3z)] [] (I, L) (.inl (some (.int res.1))) (res.2.1, res.2.2)) (x1 : Int32) (x3 : Int32) (I : MI) (L : ML) (res : Int32 × MI × ML) (h : f_X12_ghost_113 k61 x1 x3 I L = some res) : E g 6 0 mX12_ghost 113 [(0, .ref 149), (1, .int x1), (3, .int x3)] [] (I, L) (.inl (some (.int res.1))) (res.2.1, res.2.2) := by
  unfold f_X12_ghost_113 at h
  refine E_iconst (M := mX12_ghost) (v := 1) 114 rfl dX12_ghost_113 (by decide) ?_
  refine E_goto (M := mX12_ghost) 118 (by decide) dX12_ghost_114 ?_
  refine E_sub (M := mX12_ghost) (lv' := [(0, .ref 149), (1, .int x1), (3, .int x3)]) [0, 1, 2] rfl ?_
  exact S_X12_ghost_118 hk61 x1 x3 true I L _ h
def f_X12_ghost_61 : Nat → Int32 → Bool → Int32 → MI → ML → Option (Int32 × MI × ML)
  | 0, _, _, _, _, _ => none
  | n + 1, x1, x2, x3, I, L => if (I 149 10) ≤ x3 then (if x2 = true then (f_X12_ghost_135 x1 false I L) else (f_X12_ghost_135 x1 true I L)) else (if x2 = true then (if (x3 - x3 / 2 * 2) = 0 then (Option.bind (ldI I 154 400 x3) fun v9 => Option.bind (f_X12_noRoom (v9 - 97) I L) fun v10 => if v10 = true then (f_X12_ghost_117 (f_X12_ghost_61 n) x1 x3 I L) else (f_X12_ghost_113 (f_X12_ghost_61 n) x1 x3 I L)) else (Option.bind (ldI I 154 400 x3) fun v6 => Option.bind (f_X12_in v6 0 99 I L) fun v7 => if v7 = true then (f_X12_ghost_113 (f_X12_ghost_61 n) x1 x3 I L) else (f_X12_ghost_117 (f_X12_ghost_61 n) x1 x3 I L))) else (f_X12_ghost_117 (f_X12_ghost_61 n) x1 x3 I L))
set_option maxRecDepth 100000 in
theorem S_X12_ghost_61 {g : Gx} : ∀ (n : Nat) (x1 : Int32) (x2 : Bool) (x3 : Int32) (I : MI) (L : ML) (res : Int32 × MI × ML), f_X12_ghost_61 n x1 x2 x3 I L = some res → E g 6 0 mX12_ghost 61 [(0, .ref 149), (1, .int x1), (2, .int (bI x2)), (3, .int x3)] [] (I, L) (.inl (some (.int res.1))) (res.2.1, res.2.2) := by
  intro n
  induction n with
  | zero =>
    intros
    rename_i h
    cases h
  | succ n ih =>
    intro x1 x2 x3 I L res h
    rw [f_X12_ghost_61] at h
    refine E_iload_n (M := mX12_ghost) 62 rfl dX12_ghost_61 rfl 3 rfl ?_
    refine E_aload_n (M := mX12_ghost) 63 rfl dX12_ghost_62 rfl 0 rfl ?_
    refine E_gI (M := mX12_ghost) 66 rfl dX12_ghost_63 shc_149 fl_X12_76 rfl ?_
    refine E_icmp_ge (M := mX12_ghost) 125 69 (by decide) rfl dX12_ghost_66 (fun c1 => ?_) (fun c1 => ?_)
    · rw [if_pos c1] at h
      refine E_aload_n (M := mX12_ghost) 126 rfl dX12_ghost_125 rfl 0 rfl ?_
      refine E_iload_n (M := mX12_ghost) 127 rfl dX12_ghost_126 rfl 2 rfl ?_
      refine E_if_neB (M := mX12_ghost) 134 130 (by decide) rfl dX12_ghost_127 (fun c2 => ?_) (fun c2 => ?_)
      · rw [if_pos c2] at h
        refine E_iconst (M := mX12_ghost) (v := 0) 135 rfl dX12_ghost_134 (by decide) ?_
        refine E_sub (M := mX12_ghost) (lv' := [(0, .ref 149), (1, .int x1)]) [0, 1] rfl ?_
        exact S_X12_ghost_135 x1 false I L _ h
      · rw [if_neg (by rw [c2]; decide)] at h
        refine E_iconst (M := mX12_ghost) (v := 1) 131 rfl dX12_ghost_130 (by decide) ?_
        refine E_goto (M := mX12_ghost) 135 (by decide) dX12_ghost_131 ?_
        refine E_sub (M := mX12_ghost) (lv' := [(0, .ref 149), (1, .int x1)]) [0, 1] rfl ?_
        exact S_X12_ghost_135 x1 true I L _ h
    · rw [if_neg c1] at h
      refine E_iload_n (M := mX12_ghost) 70 rfl dX12_ghost_69 rfl 2 rfl ?_
      refine E_if_eqB (M := mX12_ghost) 117 73 (by decide) rfl dX12_ghost_70 (fun c3 => ?_) (fun c3 => ?_)
      · rw [if_neg (by rw [c3]; decide)] at h
        refine E_sub (M := mX12_ghost) (lv' := [(0, .ref 149), (1, .int x1), (3, .int x3)]) [0, 1, 3] rfl ?_
        exact S_X12_ghost_117 ih x1 x3 I L _ h
      · rw [if_pos c3] at h
        refine E_iload_n (M := mX12_ghost) 74 rfl dX12_ghost_73 rfl 3 rfl ?_
        refine E_iconst (M := mX12_ghost) (v := 2) 75 rfl dX12_ghost_74 (by decide) ?_
        refine E_irem (M := mX12_ghost) 76 rfl dX12_ghost_75 (by decide) ?_
        refine E_if_ne (M := mX12_ghost) 98 79 (by decide) rfl dX12_ghost_76 (fun c5 => ?_) (fun c5 => ?_)
        · rw [if_neg c5] at h
          refine E_aload_n (M := mX12_ghost) 99 rfl dX12_ghost_98 rfl 0 rfl ?_
          refine E_gR (M := mX12_ghost) 154 102 rfl dX12_ghost_99 shc_149 fl_X12_26 rfl (by decide) (by decide) ?_
          refine E_iload_n (M := mX12_ghost) 103 rfl dX12_ghost_102 rfl 3 rfl ?_
          replace h := Option.bind_eq_some_iff.mp h
          obtain ⟨v6, hv6, h⟩ := h
          refine E_ldB (M := mX12_ghost) 104 rfl dX12_ghost_103 shc_154 hv6 ?_
          refine E_iconst (M := mX12_ghost) (v := 0) 105 rfl dX12_ghost_104 (by decide) ?_
          refine E_bipush (M := mX12_ghost) (v := 99) 107 rfl dX12_ghost_105 (by decide) ?_
          replace h := Option.bind_eq_some_iff.mp h
          obtain ⟨v7, hv7, h⟩ := h
          refine E_cS1 (M := mX12_ghost) (As := [.int v6, .int 0, .int 99]) 110 rfl dX12_ghost_107 ck_X12_60 ss_X12_in rfl (by decide) (Nat.le_of_ble_eq_true rfl) (C_X12_in (g := g) hv7) rfl ?_
          refine E_if_eqB (M := mX12_ghost) 117 113 (by decide) rfl dX12_ghost_110 (fun c8 => ?_) (fun c8 => ?_)
          · rw [if_neg (by rw [c8]; decide)] at h
            refine E_sub (M := mX12_ghost) (lv' := [(0, .ref 149), (1, .int x1), (3, .int x3)]) [0, 1, 3] rfl ?_
            exact S_X12_ghost_117 ih x1 x3 I L _ h
          · rw [if_pos c8] at h
            refine E_sub (M := mX12_ghost) (lv' := [(0, .ref 149), (1, .int x1), (3, .int x3)]) [0, 1, 3] rfl ?_
            exact S_X12_ghost_113 ih x1 x3 I L _ h
        · rw [if_pos c5] at h
          refine E_aload_n (M := mX12_ghost) 80 rfl dX12_ghost_79 rfl 0 rfl ?_
          refine E_aload_n (M := mX12_ghost) 81 rfl dX12_ghost_80 rfl 0 rfl ?_
          refine E_gR (M := mX12_ghost) 154 84 rfl dX12_ghost_81 shc_149 fl_X12_26 rfl (by decide) (by decide) ?_
          refine E_iload_n (M := mX12_ghost) 85 rfl dX12_ghost_84 rfl 3 rfl ?_
          replace h := Option.bind_eq_some_iff.mp h
          obtain ⟨v9, hv9, h⟩ := h
          refine E_ldB (M := mX12_ghost) 86 rfl dX12_ghost_85 shc_154 hv9 ?_
          refine E_bipush (M := mX12_ghost) (v := 97) 88 rfl dX12_ghost_86 (by decide) ?_
          refine E_isub (M := mX12_ghost) 89 rfl dX12_ghost_88 ?_
          replace h := Option.bind_eq_some_iff.mp h
          obtain ⟨v10, hv10, h⟩ := h
          refine E_cV1 (M := mX12_ghost) (As := [.int (v9 - 97)]) 92 rfl dX12_ghost_89 shc_149 ck_X12_292 cv_X12_noRoom rfl (by decide) (Nat.le_of_ble_eq_true rfl) (C_X12_noRoom (g := g) hv10) rfl ?_
          refine E_if_neB (M := mX12_ghost) 117 95 (by decide) rfl dX12_ghost_92 (fun c11 => ?_) (fun c11 => ?_)
          · rw [if_pos c11] at h
            refine E_sub (M := mX12_ghost) (lv' := [(0, .ref 149), (1, .int x1), (3, .int x3)]) [0, 1, 3] rfl ?_
            exact S_X12_ghost_117 ih x1 x3 I L _ h
          · rw [if_neg (by rw [c11]; decide)] at h
            refine E_goto (M := mX12_ghost) 113 (by decide) dX12_ghost_95 ?_
            refine E_sub (M := mX12_ghost) (lv' := [(0, .ref 149), (1, .int x1), (3, .int x3)]) [0, 1, 3] rfl ?_
            exact S_X12_ghost_113 ih x1 x3 I L _ h
def f_X12_ghost_58 (x1 : Int32) (y0 : Bool) (I : MI) (L : ML) : Option (Int32 × MI × ML) := f_X12_ghost_61 FU x1 y0 0 I L
set_option maxRecDepth 100000 in
theorem S_X12_ghost_58 {g : Gx} (x1 : Int32) (y0 : Bool) (I : MI) (L : ML) (res : Int32 × MI × ML) (h : f_X12_ghost_58 x1 y0 I L = some res) : E g 6 0 mX12_ghost 58 [(0, .ref 149), (1, .int x1)] [.int (bI y0)] (I, L) (.inl (some (.int res.1))) (res.2.1, res.2.2) := by
  unfold f_X12_ghost_58 at h
  refine E_istore_n (M := mX12_ghost) (lv' := [(2, .int (bI y0)), (0, .ref 149), (1, .int x1)]) 59 rfl dX12_ghost_58 rfl (Nat.le_of_ble_eq_true rfl) rfl ?_
  refine E_iconst (M := mX12_ghost) (v := 0) 60 rfl dX12_ghost_59 (by decide) ?_
  refine E_istore_n (M := mX12_ghost) (lv' := [(3, .int 0), (2, .int (bI y0)), (0, .ref 149), (1, .int x1)]) 61 rfl dX12_ghost_60 rfl (Nat.le_of_ble_eq_true rfl) rfl ?_
  refine E_sub (M := mX12_ghost) (lv' := [(0, .ref 149), (1, .int x1), (2, .int (bI y0)), (3, .int 0)]) [2, 3, 1, 0] rfl ?_
  exact S_X12_ghost_61 FU x1 y0 0 I L _ h
def f_X12_ghost_57 (x1 : Int32) (I : MI) (L : ML) : Option (Int32 × MI × ML) := f_X12_ghost_58 x1 false I L
set_option maxRecDepth 100000 in
theorem S_X12_ghost_57 {g : Gx} (x1 : Int32) (I : MI) (L : ML) (res : Int32 × MI × ML) (h : f_X12_ghost_57 x1 I L = some res) : E g 6 0 mX12_ghost 57 [(0, .ref 149), (1, .int x1)] [] (I, L) (.inl (some (.int res.1))) (res.2.1, res.2.2) := by
  unfold f_X12_ghost_57 at h
  refine E_iconst (M := mX12_ghost) (v := 0) 58 rfl dX12_ghost_57 (by decide) ?_
  refine E_sub (M := mX12_ghost) (lv' := [(0, .ref 149), (1, .int x1)]) [0, 1] rfl ?_
  exact S_X12_ghost_58 x1 false I L _ h
def f_X12_ghost_19 (x1 : Int32) (y1 : Bool) (I : MI) (L : ML) : Option (Int32 × MI × ML) := Option.bind (f_X12_throwsIf y1 1 I L) fun w1 => if w1.1 = true then (some (0, w1.2.1, w1.2.2)) else (if (w1.2.1 149 10) ≤ 0 then (f_X12_ghost_57 x1 w1.2.1 w1.2.2) else (if ((w1.2.1 149 10) - (w1.2.1 149 10) / 2 * 2) = 0 then (if 12 < (w1.2.1 149 10) then (f_X12_ghost_57 x1 w1.2.1 w1.2.2) else (f_X12_ghost_58 x1 true w1.2.1 w1.2.2)) else (f_X12_ghost_57 x1 w1.2.1 w1.2.2)))
set_option maxRecDepth 100000 in
theorem S_X12_ghost_19 {g : Gx} (x1 : Int32) (y1 : Bool) (I : MI) (L : ML) (res : Int32 × MI × ML) (h : f_X12_ghost_19 x1 y1 I L = some res) : E g 6 0 mX12_ghost 19 [(0, .ref 149), (1, .int x1)] [.int (bI y1), .ref 149] (I, L) (.inl (some (.int res.1))) (res.2.1, res.2.2) := by
  unfold f_X12_ghost_19 at h
  refine E_iconst (M := mX12_ghost) (v := 1) 20 rfl dX12_ghost_19 (by decide) ?_
  replace h := Option.bind_eq_some_iff.mp h
  obtain ⟨w1, hw1, h⟩ := h
  refine E_cV1 (M := mX12_ghost) (As := [.int (bI y1), .int 1]) 23 rfl dX12_ghost_20 shc_149 ck_X12_245 cv_X12_throwsIf rfl (by decide) (Nat.le_of_ble_eq_true rfl) (C_X12_throwsIf (g := g) hw1) rfl ?_
  refine E_if_eqB (M := mX12_ghost) 28 26 (by decide) rfl dX12_ghost_23 (fun c2 => ?_) (fun c2 => ?_)
  · rw [if_neg (by rw [c2]; decide)] at h
    refine E_aload_n (M := mX12_ghost) 29 rfl dX12_ghost_28 rfl 0 rfl ?_
    refine E_gI (M := mX12_ghost) 32 rfl dX12_ghost_29 shc_149 fl_X12_76 rfl ?_
    refine E_if_le (M := mX12_ghost) 57 35 (by decide) rfl dX12_ghost_32 (fun c3 => ?_) (fun c3 => ?_)
    · rw [if_pos c3] at h
      refine E_sub (M := mX12_ghost) (lv' := [(0, .ref 149), (1, .int x1)]) [0, 1] rfl ?_
      exact S_X12_ghost_57 x1 w1.2.1 w1.2.2 _ h
    · rw [if_neg c3] at h
      refine E_aload_n (M := mX12_ghost) 36 rfl dX12_ghost_35 rfl 0 rfl ?_
      refine E_gI (M := mX12_ghost) 39 rfl dX12_ghost_36 shc_149 fl_X12_76 rfl ?_
      refine E_iconst (M := mX12_ghost) (v := 2) 40 rfl dX12_ghost_39 (by decide) ?_
      refine E_irem (M := mX12_ghost) 41 rfl dX12_ghost_40 (by decide) ?_
      refine E_if_ne (M := mX12_ghost) 57 44 (by decide) rfl dX12_ghost_41 (fun c5 => ?_) (fun c5 => ?_)
      · rw [if_neg c5] at h
        refine E_sub (M := mX12_ghost) (lv' := [(0, .ref 149), (1, .int x1)]) [0, 1] rfl ?_
        exact S_X12_ghost_57 x1 w1.2.1 w1.2.2 _ h
      · rw [if_pos c5] at h
        refine E_aload_n (M := mX12_ghost) 45 rfl dX12_ghost_44 rfl 0 rfl ?_
        refine E_gI (M := mX12_ghost) 48 rfl dX12_ghost_45 shc_149 fl_X12_76 rfl ?_
        refine E_bipush (M := mX12_ghost) (v := 12) 50 rfl dX12_ghost_48 (by decide) ?_
        refine E_icmp_gt (M := mX12_ghost) 57 53 (by decide) rfl dX12_ghost_50 (fun c6 => ?_) (fun c6 => ?_)
        · rw [if_pos c6] at h
          refine E_sub (M := mX12_ghost) (lv' := [(0, .ref 149), (1, .int x1)]) [0, 1] rfl ?_
          exact S_X12_ghost_57 x1 w1.2.1 w1.2.2 _ h
        · rw [if_neg c6] at h
          refine E_iconst (M := mX12_ghost) (v := 1) 54 rfl dX12_ghost_53 (by decide) ?_
          refine E_goto (M := mX12_ghost) 58 (by decide) dX12_ghost_54 ?_
          refine E_sub (M := mX12_ghost) (lv' := [(0, .ref 149), (1, .int x1)]) [0, 1] rfl ?_
          exact S_X12_ghost_58 x1 true w1.2.1 w1.2.2 _ h
  · rw [if_pos c2] at h
    refine E_iconst (M := mX12_ghost) (v := 0) 27 rfl dX12_ghost_26 (by decide) ?_
    cases h
    exact E_iret (M := mX12_ghost) rfl dX12_ghost_27
def f_X12_ghost (x1 : Int32) (I : MI) (L : ML) : Option (Int32 × MI × ML) := Option.bind (f_X12_uses I L) fun w1 => Option.bind (f_X12_in x1 0 2 w1.1 w1.2) fun v2 => if v2 = true then (f_X12_ghost_19 x1 false w1.1 w1.2) else (f_X12_ghost_19 x1 true w1.1 w1.2)
set_option maxRecDepth 100000 in
theorem S_X12_ghost {g : Gx} (x1 : Int32) (I : MI) (L : ML) (res : Int32 × MI × ML) (h : f_X12_ghost x1 I L = some res) : E g 6 0 mX12_ghost 0 [(0, .ref 149), (1, .int x1)] [] (I, L) (.inl (some (.int res.1))) (res.2.1, res.2.2) := by
  unfold f_X12_ghost at h
  refine E_aload_n (M := mX12_ghost) 1 rfl dX12_ghost_0 rfl 0 rfl ?_
  replace h := Option.bind_eq_some_iff.mp h
  obtain ⟨w1, hw1, h⟩ := h
  refine E_cV0 (M := mX12_ghost) (As := []) 4 rfl dX12_ghost_1 shc_149 ck_X12_234 cv_X12_uses rfl (by decide) (Nat.le_of_ble_eq_true rfl) (C_X12_uses (g := g) hw1) rfl ?_
  refine E_aload_n (M := mX12_ghost) 5 rfl dX12_ghost_4 rfl 0 rfl ?_
  refine E_iload_n (M := mX12_ghost) 6 rfl dX12_ghost_5 rfl 1 rfl ?_
  refine E_iconst (M := mX12_ghost) (v := 0) 7 rfl dX12_ghost_6 (by decide) ?_
  refine E_iconst (M := mX12_ghost) (v := 2) 8 rfl dX12_ghost_7 (by decide) ?_
  replace h := Option.bind_eq_some_iff.mp h
  obtain ⟨v2, hv2, h⟩ := h
  refine E_cS1 (M := mX12_ghost) (As := [.int x1, .int 0, .int 2]) 11 rfl dX12_ghost_8 ck_X12_60 ss_X12_in rfl (by decide) (Nat.le_of_ble_eq_true rfl) (C_X12_in (g := g) hv2) rfl ?_
  refine E_if_neB (M := mX12_ghost) 18 14 (by decide) rfl dX12_ghost_11 (fun c3 => ?_) (fun c3 => ?_)
  · rw [if_pos c3] at h
    refine E_iconst (M := mX12_ghost) (v := 0) 19 rfl dX12_ghost_18 (by decide) ?_
    refine E_sub (M := mX12_ghost) (lv' := [(0, .ref 149), (1, .int x1)]) [0, 1] rfl ?_
    exact S_X12_ghost_19 x1 false w1.1 w1.2 _ h
  · rw [if_neg (by rw [c3]; decide)] at h
    refine E_iconst (M := mX12_ghost) (v := 1) 15 rfl dX12_ghost_14 (by decide) ?_
    refine E_goto (M := mX12_ghost) 19 (by decide) dX12_ghost_15 ?_
    refine E_sub (M := mX12_ghost) (lv' := [(0, .ref 149), (1, .int x1)]) [0, 1] rfl ?_
    exact S_X12_ghost_19 x1 true w1.1 w1.2 _ h
theorem C_X12_ghost {g : Gx} {x1 : Int32} {I : MI} {L : ML} {res : Int32 × MI × ML} (h : f_X12_ghost x1 I L = some res) : Ent g 6 0 mX12_ghost [.ref 149, .int x1] (I, L) (.inl (some (.int res.1))) (res.2.1, res.2.2) := Ent_of (by decide +kernel) (Nat.le_of_ble_eq_true rfl) (S_X12_ghost x1 I L _ h)
def f_X12_dueOfAll_9 : Nat → Int32 → Int64 → Int32 → MI → ML → Option (Int64 × MI × ML)
  | 0, _, _, _, _, _ => none
  | n + 1, x1, x2, x4, I, L => Option.bind (f_X12_noises I L) fun v1 => if v1 ≤ x4 then (some (x2, I, L)) else (Option.bind (f_X12_dueOf x4 x1 I L) fun v3 => f_X12_dueOfAll_9 n x1 (x2 + v3) (x4 + 1) I L)
set_option maxRecDepth 100000 in
theorem S_X12_dueOfAll_9 {g : Gx} : ∀ (n : Nat) (x1 : Int32) (x2 : Int64) (x4 : Int32) (I : MI) (L : ML) (res : Int64 × MI × ML), f_X12_dueOfAll_9 n x1 x2 x4 I L = some res → E g 9 0 mX12_dueOfAll 9 [(0, .ref 149), (1, .int x1), (2, .long x2), (4, .int x4)] [] (I, L) (.inl (some (.long res.1))) (res.2.1, res.2.2) := by
  intro n
  induction n with
  | zero =>
    intros
    rename_i h
    cases h
  | succ n ih =>
    intro x1 x2 x4 I L res h
    rw [f_X12_dueOfAll_9] at h
    refine E_iload (M := mX12_dueOfAll) 11 rfl dX12_dueOfAll_9 3 rfl ?_
    refine E_aload_n (M := mX12_dueOfAll) 12 rfl dX12_dueOfAll_11 rfl 0 rfl ?_
    replace h := Option.bind_eq_some_iff.mp h
    obtain ⟨v1, hv1, h⟩ := h
    refine E_cV1 (M := mX12_dueOfAll) (As := []) 15 rfl dX12_dueOfAll_12 shc_149 ck_X12_67 cv_X12_noises rfl (by decide) (Nat.le_of_ble_eq_true rfl) (C_X12_noises (g := g) hv1) rfl ?_
    refine E_icmp_ge (M := mX12_dueOfAll) 34 18 (by decide) rfl dX12_dueOfAll_15 (fun c2 => ?_) (fun c2 => ?_)
    · rw [if_pos c2] at h
      refine E_lload_n (M := mX12_dueOfAll) 35 rfl dX12_dueOfAll_34 rfl 2 rfl ?_
      cases h
      exact E_lret (M := mX12_dueOfAll) rfl dX12_dueOfAll_35
    · rw [if_neg c2] at h
      refine E_lload_n (M := mX12_dueOfAll) 19 rfl dX12_dueOfAll_18 rfl 2 rfl ?_
      refine E_aload_n (M := mX12_dueOfAll) 20 rfl dX12_dueOfAll_19 rfl 0 rfl ?_
      refine E_iload (M := mX12_dueOfAll) 22 rfl dX12_dueOfAll_20 3 rfl ?_
      refine E_iload_n (M := mX12_dueOfAll) 23 rfl dX12_dueOfAll_22 rfl 1 rfl ?_
      replace h := Option.bind_eq_some_iff.mp h
      obtain ⟨v3, hv3, h⟩ := h
      refine E_cV1 (M := mX12_dueOfAll) (As := [.int x4, .int x1]) 26 rfl dX12_dueOfAll_23 shc_149 ck_X12_351 cv_X12_dueOf rfl (by decide) (Nat.le_of_ble_eq_true rfl) (C_X12_dueOf (g := g) hv3) rfl ?_
      refine E_ladd (M := mX12_dueOfAll) 27 rfl dX12_dueOfAll_26 ?_
      refine E_lstore_n (M := mX12_dueOfAll) (lv' := [(2, .long (x2 + v3)), (0, .ref 149), (1, .int x1), (4, .int x4)]) 28 rfl dX12_dueOfAll_27 rfl (Nat.le_of_ble_eq_true rfl) rfl ?_
      refine E_iinc (M := mX12_dueOfAll) (j := 3) (v := x4 + 1) (lv' := [(4, .int (x4 + 1)), (2, .long (x2 + v3)), (0, .ref 149), (1, .int x1)]) 31 rfl dX12_dueOfAll_28 rfl rfl (Nat.le_of_ble_eq_true rfl) rfl ?_
      refine E_goto (M := mX12_dueOfAll) 9 (by decide) dX12_dueOfAll_31 ?_
      refine E_sub (M := mX12_dueOfAll) (lv' := [(0, .ref 149), (1, .int x1), (2, .long (x2 + v3)), (4, .int (x4 + 1))]) [2, 3, 1, 0] rfl ?_
      exact ih x1 (x2 + v3) (x4 + 1) I L _ h
def f_X12_dueOfAll (x1 : Int32) (I : MI) (L : ML) : Option (Int64 × MI × ML) := Option.bind (f_X12_spreads I L) fun w1 => f_X12_dueOfAll_9 FU x1 0 0 w1.1 w1.2
set_option maxRecDepth 100000 in
theorem S_X12_dueOfAll {g : Gx} (x1 : Int32) (I : MI) (L : ML) (res : Int64 × MI × ML) (h : f_X12_dueOfAll x1 I L = some res) : E g 9 0 mX12_dueOfAll 0 [(0, .ref 149), (1, .int x1)] [] (I, L) (.inl (some (.long res.1))) (res.2.1, res.2.2) := by
  unfold f_X12_dueOfAll at h
  refine E_aload_n (M := mX12_dueOfAll) 1 rfl dX12_dueOfAll_0 rfl 0 rfl ?_
  replace h := Option.bind_eq_some_iff.mp h
  obtain ⟨w1, hw1, h⟩ := h
  refine E_cV0 (M := mX12_dueOfAll) (As := []) 4 rfl dX12_dueOfAll_1 shc_149 ck_X12_298 cv_X12_spreads rfl (by decide) (Nat.le_of_ble_eq_true rfl) (C_X12_spreads (g := g) hw1) rfl ?_
  refine E_lconst (M := mX12_dueOfAll) (v := 0) 5 rfl dX12_dueOfAll_4 (by decide) ?_
  refine E_lstore_n (M := mX12_dueOfAll) (lv' := [(2, .long 0), (0, .ref 149), (1, .int x1)]) 6 rfl dX12_dueOfAll_5 rfl (Nat.le_of_ble_eq_true rfl) rfl ?_
  refine E_iconst (M := mX12_dueOfAll) (v := 0) 7 rfl dX12_dueOfAll_6 (by decide) ?_
  refine E_istore (M := mX12_dueOfAll) (lv' := [(4, .int 0), (2, .long 0), (0, .ref 149), (1, .int x1)]) 9 rfl dX12_dueOfAll_7 (Nat.le_of_ble_eq_true rfl) rfl ?_
  refine E_sub (M := mX12_dueOfAll) (lv' := [(0, .ref 149), (1, .int x1), (2, .long 0), (4, .int 0)]) [2, 3, 1, 0] rfl ?_
  exact S_X12_dueOfAll_9 FU x1 0 0 w1.1 w1.2 _ h
theorem C_X12_dueOfAll {g : Gx} {x1 : Int32} {I : MI} {L : ML} {res : Int64 × MI × ML} (h : f_X12_dueOfAll x1 I L = some res) : Ent g 9 0 mX12_dueOfAll [.ref 149, .int x1] (I, L) (.inl (some (.long res.1))) (res.2.1, res.2.2) := Ent_of (by decide +kernel) (Nat.le_of_ble_eq_true rfl) (S_X12_dueOfAll x1 I L _ h)
def f_X12_breach_41 (I : MI) (L : ML) : Option (Int64 × MI × ML) := some (0, I, L)
set_option maxRecDepth 100000 in
theorem S_X12_breach_41 {g : Gx} (I : MI) (L : ML) (res : Int64 × MI × ML) (h : f_X12_breach_41 I L = some res) : E g 10 0 mX12_breach 41 [] [] (I, L) (.inl (some (.long res.1))) (res.2.1, res.2.2) := by
  unfold f_X12_breach_41 at h
  refine E_lconst (M := mX12_breach) (v := 0) 42 rfl dX12_breach_41 (by decide) ?_
  cases h
  exact E_lret (M := mX12_breach) rfl dX12_breach_42
def f_X12_breach_34 (x1 : Int32) (x2 : Int32) (y1 : Bool) (I : MI) (L : ML) : Option (Int64 × MI × ML) := Option.bind (f_X12_throwsIf y1 2 I L) fun w1 => if w1.1 = true then (f_X12_breach_41 w1.2.1 w1.2.2) else (Option.bind (ldI w1.2.1 150 2143 (15 + x1)) fun v3 => Option.bind (f_X12_dueOfAll 10 w1.2.1 w1.2.2) fun w4 => Option.bind (stI w4.2.1 150 2143 (15 + x1) x2) fun I5 => Option.bind (f_X12_dueOfAll 10 I5 w4.2.2) fun w6 => Option.bind (stI w6.2.1 150 2143 (15 + x1) v3) fun I7 => some (w4.1 - w6.1, I7, w6.2.2))
set_option maxRecDepth 100000 in
theorem S_X12_breach_34 {g : Gx} (x1 : Int32) (x2 : Int32) (y1 : Bool) (I : MI) (L : ML) (res : Int64 × MI × ML) (h : f_X12_breach_34 x1 x2 y1 I L = some res) : E g 10 0 mX12_breach 34 [(0, .ref 149), (1, .int x1), (2, .int x2)] [.int (bI y1), .ref 149] (I, L) (.inl (some (.long res.1))) (res.2.1, res.2.2) := by
  unfold f_X12_breach_34 at h
  refine E_iconst (M := mX12_breach) (v := 2) 35 rfl dX12_breach_34 (by decide) ?_
  replace h := Option.bind_eq_some_iff.mp h
  obtain ⟨w1, hw1, h⟩ := h
  refine E_cV1 (M := mX12_breach) (As := [.int (bI y1), .int 2]) 38 rfl dX12_breach_35 shc_149 ck_X12_245 cv_X12_throwsIf rfl (by decide) (Nat.le_of_ble_eq_true rfl) (C_X12_throwsIf (g := g) hw1) rfl ?_
  refine E_if_eqB (M := mX12_breach) 43 41 (by decide) rfl dX12_breach_38 (fun c2 => ?_) (fun c2 => ?_)
  · rw [if_neg (by rw [c2]; decide)] at h
    refine E_aload_n (M := mX12_breach) 44 rfl dX12_breach_43 rfl 0 rfl ?_
    refine E_gR (M := mX12_breach) 150 47 rfl dX12_breach_44 shc_149 fl_X12_13 rfl (by decide) (by decide) ?_
    refine E_bipush (M := mX12_breach) (v := 15) 49 rfl dX12_breach_47 (by decide) ?_
    refine E_iload_n (M := mX12_breach) 50 rfl dX12_breach_49 rfl 1 rfl ?_
    refine E_iadd (M := mX12_breach) 51 rfl dX12_breach_50 ?_
    replace h := Option.bind_eq_some_iff.mp h
    obtain ⟨v3, hv3, h⟩ := h
    refine E_ldI (M := mX12_breach) 52 rfl dX12_breach_51 shc_150 hv3 ?_
    refine E_istore_n (M := mX12_breach) (lv' := [(3, .int v3), (0, .ref 149), (1, .int x1), (2, .int x2)]) 53 rfl dX12_breach_52 rfl (Nat.le_of_ble_eq_true rfl) rfl ?_
    refine E_aload_n (M := mX12_breach) 54 rfl dX12_breach_53 rfl 1 rfl ?_
    refine E_bipush (M := mX12_breach) (v := 10) 56 rfl dX12_breach_54 (by decide) ?_
    replace h := Option.bind_eq_some_iff.mp h
    obtain ⟨w4, hw4, h⟩ := h
    refine E_cV1 (M := mX12_breach) (As := [.int 10]) 59 rfl dX12_breach_56 shc_149 ck_X12_360 cv_X12_dueOfAll rfl (by decide) (Nat.le_of_ble_eq_true rfl) (C_X12_dueOfAll (g := g) hw4) rfl ?_
    refine E_lstore (M := mX12_breach) (lv' := [(4, .long w4.1), (3, .int v3), (0, .ref 149), (1, .int x1), (2, .int x2)]) 61 rfl dX12_breach_59 (Nat.le_of_ble_eq_true rfl) rfl ?_
    refine E_aload_n (M := mX12_breach) 62 rfl dX12_breach_61 rfl 2 rfl ?_
    refine E_gR (M := mX12_breach) 150 65 rfl dX12_breach_62 shc_149 fl_X12_13 rfl (by decide) (by decide) ?_
    refine E_bipush (M := mX12_breach) (v := 15) 67 rfl dX12_breach_65 (by decide) ?_
    refine E_iload_n (M := mX12_breach) 68 rfl dX12_breach_67 rfl 3 rfl ?_
    refine E_iadd (M := mX12_breach) 69 rfl dX12_breach_68 ?_
    refine E_iload_n (M := mX12_breach) 70 rfl dX12_breach_69 rfl 4 rfl ?_
    replace h := Option.bind_eq_some_iff.mp h
    obtain ⟨I5, hI5, h⟩ := h
    refine E_stI (M := mX12_breach) 71 rfl dX12_breach_70 shc_150 hI5 ?_
    refine E_aload_n (M := mX12_breach) 72 rfl dX12_breach_71 rfl 2 rfl ?_
    refine E_bipush (M := mX12_breach) (v := 10) 74 rfl dX12_breach_72 (by decide) ?_
    replace h := Option.bind_eq_some_iff.mp h
    obtain ⟨w6, hw6, h⟩ := h
    refine E_cV1 (M := mX12_breach) (As := [.int 10]) 77 rfl dX12_breach_74 shc_149 ck_X12_360 cv_X12_dueOfAll rfl (by decide) (Nat.le_of_ble_eq_true rfl) (C_X12_dueOfAll (g := g) hw6) rfl ?_
    refine E_lstore (M := mX12_breach) (lv' := [(6, .long w6.1), (4, .long w4.1), (3, .int v3), (0, .ref 149), (1, .int x1), (2, .int x2)]) 79 rfl dX12_breach_77 (Nat.le_of_ble_eq_true rfl) rfl ?_
    refine E_aload_n (M := mX12_breach) 80 rfl dX12_breach_79 rfl 3 rfl ?_
    refine E_gR (M := mX12_breach) 150 83 rfl dX12_breach_80 shc_149 fl_X12_13 rfl (by decide) (by decide) ?_
    refine E_bipush (M := mX12_breach) (v := 15) 85 rfl dX12_breach_83 (by decide) ?_
    refine E_iload_n (M := mX12_breach) 86 rfl dX12_breach_85 rfl 4 rfl ?_
    refine E_iadd (M := mX12_breach) 87 rfl dX12_breach_86 ?_
    refine E_iload_n (M := mX12_breach) 88 rfl dX12_breach_87 rfl 2 rfl ?_
    replace h := Option.bind_eq_some_iff.mp h
    obtain ⟨I7, hI7, h⟩ := h
    refine E_stI (M := mX12_breach) 89 rfl dX12_breach_88 shc_150 hI7 ?_
    refine E_lload (M := mX12_breach) 91 rfl dX12_breach_89 1 rfl ?_
    refine E_lload (M := mX12_breach) 93 rfl dX12_breach_91 0 rfl ?_
    refine E_lsub (M := mX12_breach) 94 rfl dX12_breach_93 ?_
    cases h
    exact E_lret (M := mX12_breach) rfl dX12_breach_94
  · rw [if_pos c2] at h
    refine E_sub (M := mX12_breach) (lv' := []) [] rfl ?_
    exact S_X12_breach_41 w1.2.1 w1.2.2 _ h
def f_X12_breach (x1 : Int32) (x2 : Int32) (I : MI) (L : ML) : Option (Int64 × MI × ML) := Option.bind (pfI I 149 0 0) fun I1 => Option.bind (f_X12_noRoom x1 I1 L) fun v2 => Option.bind (f_X12_throwsIf v2 1 I1 L) fun w3 => if w3.1 = true then (f_X12_breach_41 w3.2.1 w3.2.2) else (Option.bind (f_X12_in x2 0 20 w3.2.1 w3.2.2) fun v5 => if v5 = true then (f_X12_breach_34 x1 x2 false w3.2.1 w3.2.2) else (f_X12_breach_34 x1 x2 true w3.2.1 w3.2.2))
set_option maxRecDepth 100000 in
theorem S_X12_breach {g : Gx} (x1 : Int32) (x2 : Int32) (I : MI) (L : ML) (res : Int64 × MI × ML) (h : f_X12_breach x1 x2 I L = some res) : E g 10 0 mX12_breach 0 [(0, .ref 149), (1, .int x1), (2, .int x2)] [] (I, L) (.inl (some (.long res.1))) (res.2.1, res.2.2) := by
  unfold f_X12_breach at h
  refine E_aload_n (M := mX12_breach) 1 rfl dX12_breach_0 rfl 0 rfl ?_
  refine E_iconst (M := mX12_breach) (v := 0) 2 rfl dX12_breach_1 (by decide) ?_
  replace h := Option.bind_eq_some_iff.mp h
  obtain ⟨I1, hI1, h⟩ := h
  refine E_pfI (M := mX12_breach) 5 rfl dX12_breach_2 shc_149 fl_X12_3 rfl hI1 ?_
  refine E_aload_n (M := mX12_breach) 6 rfl dX12_breach_5 rfl 0 rfl ?_
  refine E_aload_n (M := mX12_breach) 7 rfl dX12_breach_6 rfl 0 rfl ?_
  refine E_iload_n (M := mX12_breach) 8 rfl dX12_breach_7 rfl 1 rfl ?_
  replace h := Option.bind_eq_some_iff.mp h
  obtain ⟨v2, hv2, h⟩ := h
  refine E_cV1 (M := mX12_breach) (As := [.int x1]) 11 rfl dX12_breach_8 shc_149 ck_X12_292 cv_X12_noRoom rfl (by decide) (Nat.le_of_ble_eq_true rfl) (C_X12_noRoom (g := g) hv2) rfl ?_
  refine E_iconst (M := mX12_breach) (v := 1) 12 rfl dX12_breach_11 (by decide) ?_
  replace h := Option.bind_eq_some_iff.mp h
  obtain ⟨w3, hw3, h⟩ := h
  refine E_cV1 (M := mX12_breach) (As := [.int (bI v2), .int 1]) 15 rfl dX12_breach_12 shc_149 ck_X12_245 cv_X12_throwsIf rfl (by decide) (Nat.le_of_ble_eq_true rfl) (C_X12_throwsIf (g := g) hw3) rfl ?_
  refine E_if_neB (M := mX12_breach) 41 18 (by decide) rfl dX12_breach_15 (fun c4 => ?_) (fun c4 => ?_)
  · rw [if_pos c4] at h
    refine E_sub (M := mX12_breach) (lv' := []) [] rfl ?_
    exact S_X12_breach_41 w3.2.1 w3.2.2 _ h
  · rw [if_neg (by rw [c4]; decide)] at h
    refine E_aload_n (M := mX12_breach) 19 rfl dX12_breach_18 rfl 0 rfl ?_
    refine E_iload_n (M := mX12_breach) 20 rfl dX12_breach_19 rfl 2 rfl ?_
    refine E_iconst (M := mX12_breach) (v := 0) 21 rfl dX12_breach_20 (by decide) ?_
    refine E_bipush (M := mX12_breach) (v := 20) 23 rfl dX12_breach_21 (by decide) ?_
    replace h := Option.bind_eq_some_iff.mp h
    obtain ⟨v5, hv5, h⟩ := h
    refine E_cS1 (M := mX12_breach) (As := [.int x2, .int 0, .int 20]) 26 rfl dX12_breach_23 ck_X12_60 ss_X12_in rfl (by decide) (Nat.le_of_ble_eq_true rfl) (C_X12_in (g := g) hv5) rfl ?_
    refine E_if_neB (M := mX12_breach) 33 29 (by decide) rfl dX12_breach_26 (fun c6 => ?_) (fun c6 => ?_)
    · rw [if_pos c6] at h
      refine E_iconst (M := mX12_breach) (v := 0) 34 rfl dX12_breach_33 (by decide) ?_
      refine E_sub (M := mX12_breach) (lv' := [(0, .ref 149), (1, .int x1), (2, .int x2)]) [0, 1, 2] rfl ?_
      exact S_X12_breach_34 x1 x2 false w3.2.1 w3.2.2 _ h
    · rw [if_neg (by rw [c6]; decide)] at h
      refine E_iconst (M := mX12_breach) (v := 1) 30 rfl dX12_breach_29 (by decide) ?_
      refine E_goto (M := mX12_breach) 34 (by decide) dX12_breach_30 ?_
      refine E_sub (M := mX12_breach) (lv' := [(0, .ref 149), (1, .int x1), (2, .int x2)]) [0, 1, 2] rfl ?_
      exact S_X12_breach_34 x1 x2 true w3.2.1 w3.2.2 _ h
theorem C_X12_breach {g : Gx} {x1 : Int32} {x2 : Int32} {I : MI} {L : ML} {res : Int64 × MI × ML} (h : f_X12_breach x1 x2 I L = some res) : Ent g 10 0 mX12_breach [.ref 149, .int x1, .int x2] (I, L) (.inl (some (.long res.1))) (res.2.1, res.2.2) := Ent_of (by decide +kernel) (Nat.le_of_ble_eq_true rfl) (S_X12_breach x1 x2 I L _ h)
def f_X12_silence_159 (y0 : Int64) (I : MI) (L : ML) : Option (Int64 × MI × ML) := some (y0, I, L)
set_option maxRecDepth 100000 in
theorem S_X12_silence_159 {g : Gx} (y0 : Int64) (I : MI) (L : ML) (res : Int64 × MI × ML) (h : f_X12_silence_159 y0 I L = some res) : E g 9 0 mX12_silence 159 [] [.long y0] (I, L) (.inl (some (.long res.1))) (res.2.1, res.2.2) := by
  unfold f_X12_silence_159 at h
  cases h
  exact E_lret (M := mX12_silence) rfl dX12_silence_159
def f_X12_silence_126 (k64 : Int32 → Int32 → Int32 → Bool → Int64 → Int64 → Int32 → MI → ML → Option (Int64 × MI × ML)) (x1 : Int32) (x2 : Int32) (x3 : Int32) (x4 : Bool) (x5 : Int64) (x7 : Int64) (x9 : Int32) (I : MI) (L : ML) : Option (Int64 × MI × ML) := k64 x1 x2 x3 x4 x5 x7 (x9 + 1) I L
set_option maxRecDepth 100000 in
theorem S_X12_silence_126 {g : Gx} {k64 : Int32 → Int32 → Int32 → Bool → Int64 → Int64 → Int32 → MI → ML → Option (Int64 × MI × ML)} (hk64 : ∀ (x1z : Int32) (x2z : Int32) (x3z : Int32) (x4z : Bool) (x5z : Int64) (x7z : Int64) (x9z : Int32) (I : MI) (L : ML) (res : Int64 × MI × ML), k64 x1z x2z x3z x4z x5z x7z x9z I L = some res → E g 9 0 mX12_silence 64 [(0, .ref 149), (1, .int x1z), (2, .int x2z), (3, .int x3z), (4, .int (bI x4z)), (5, .long x5z), (7, .long x7z), (9, .int x9z)] [] (I, L) (.inl (some (.long res.1))) (res.2.1, res.2.2)) (x1 : Int32) (x2 : Int32) (x3 : Int32) (x4 : Bool) (x5 : Int64) (x7 : Int64) (x9 : Int32) (I : MI) (L : ML) (res : Int64 × MI × ML) (h : f_X12_silence_126 k64 x1 x2 x3 x4 x5 x7 x9 I L = some res) : E g 9 0 mX12_silence 126 [(0, .ref 149), (1, .int x1), (2, .int x2), (3, .int x3), (4, .int (bI x4)), (5, .long x5), (7, .long x7), (9, .int x9)] [] (I, L) (.inl (some (.long res.1))) (res.2.1, res.2.2) := by
  unfold f_X12_silence_126 at h
  refine E_iinc (M := mX12_silence) (j := 7) (v := x9 + 1) (lv' := [(9, .int (x9 + 1)), (0, .ref 149), (1, .int x1), (2, .int x2), (3, .int x3), (4, .int (bI x4)), (5, .long x5), (7, .long x7)]) 129 rfl dX12_silence_126 rfl rfl (Nat.le_of_ble_eq_true rfl) rfl ?_
  refine E_goto (M := mX12_silence) 64 (by decide) dX12_silence_129 ?_
  refine E_sub (M := mX12_silence) (lv' := [(0, .ref 149), (1, .int x1), (2, .int x2), (3, .int x3), (4, .int (bI x4)), (5, .long x5), (7, .long x7), (9, .int (x9 + 1))]) [1, 2, 3, 4, 5, 6, 7, 0] rfl ?_
  exact hk64 x1 x2 x3 x4 x5 x7 (x9 + 1) I L _ h
def f_X12_silence_64 : Nat → Int32 → Int32 → Int32 → Bool → Int64 → Int64 → Int32 → MI → ML → Option (Int64 × MI × ML)
  | 0, _, _, _, _, _, _, _, _, _ => none
  | n + 1, x1, x2, x3, x4, x5, x7, x9, I, L => Option.bind (f_X12_noises I L) fun v1 => if v1 ≤ x9 then (if x5 ≤ 9999 then (if x4 = true then (f_X12_silence_159 x7 I L) else (f_X12_silence_159 x5 I L)) else (f_X12_silence_159 ((-1)) I L)) else (Option.bind (f_X12_atOf x9 x1 I L) fun v5 => if v5 = 0 then (f_X12_silence_126 (f_X12_silence_64 n) x1 x2 x3 x4 x5 x7 x9 I L) else (Option.bind (f_X12_dueOf x9 x2 I L) fun v7 => Option.bind (dvL ((v7 + x3.toInt64) - 1) x3.toInt64) fun v8 => f_X12_silence_126 (f_X12_silence_64 n) x1 x2 x3 x4 (if (if v8 < 1 then 1 else v8) < x5 then x5 else (if v8 < 1 then 1 else v8)) (x7 + ((if v8 < 1 then 1 else v8) * x3.toInt64)) x9 I L))
set_option maxRecDepth 100000 in
theorem S_X12_silence_64 {g : Gx} : ∀ (n : Nat) (x1 : Int32) (x2 : Int32) (x3 : Int32) (x4 : Bool) (x5 : Int64) (x7 : Int64) (x9 : Int32) (I : MI) (L : ML) (res : Int64 × MI × ML), f_X12_silence_64 n x1 x2 x3 x4 x5 x7 x9 I L = some res → E g 9 0 mX12_silence 64 [(0, .ref 149), (1, .int x1), (2, .int x2), (3, .int x3), (4, .int (bI x4)), (5, .long x5), (7, .long x7), (9, .int x9)] [] (I, L) (.inl (some (.long res.1))) (res.2.1, res.2.2) := by
  intro n
  induction n with
  | zero =>
    intros
    rename_i h
    cases h
  | succ n ih =>
    intro x1 x2 x3 x4 x5 x7 x9 I L res h
    rw [f_X12_silence_64] at h
    refine E_iload (M := mX12_silence) 66 rfl dX12_silence_64 7 rfl ?_
    refine E_aload_n (M := mX12_silence) 67 rfl dX12_silence_66 rfl 0 rfl ?_
    replace h := Option.bind_eq_some_iff.mp h
    obtain ⟨v1, hv1, h⟩ := h
    refine E_cV1 (M := mX12_silence) (As := []) 70 rfl dX12_silence_67 shc_149 ck_X12_67 cv_X12_noises rfl (by decide) (Nat.le_of_ble_eq_true rfl) (C_X12_noises (g := g) hv1) rfl ?_
    refine E_icmp_ge (M := mX12_silence) 132 73 (by decide) rfl dX12_silence_70 (fun c2 => ?_) (fun c2 => ?_)
    · rw [if_pos c2] at h
      refine E_lload (M := mX12_silence) 134 rfl dX12_silence_132 5 rfl ?_
      refine E_ldc2 (M := mX12_silence) 137 rfl dX12_silence_134 csl_X12_366 ?_
      refine E_lc_le (M := mX12_silence) 147 138 141 (by decide) rfl rfl dX12_silence_137 dX12_silence_138 (fun c3 => ?_) (fun c3 => ?_)
      · rw [if_pos c3] at h
        refine E_iload (M := mX12_silence) 149 rfl dX12_silence_147 4 rfl ?_
        refine E_if_eqB (M := mX12_silence) 157 152 (by decide) rfl dX12_silence_149 (fun c4 => ?_) (fun c4 => ?_)
        · rw [if_neg (by rw [c4]; decide)] at h
          refine E_lload (M := mX12_silence) 159 rfl dX12_silence_157 5 rfl ?_
          refine E_sub (M := mX12_silence) (lv' := []) [] rfl ?_
          exact S_X12_silence_159 x5 I L _ h
        · rw [if_pos c4] at h
          refine E_lload (M := mX12_silence) 154 rfl dX12_silence_152 6 rfl ?_
          refine E_goto (M := mX12_silence) 159 (by decide) dX12_silence_154 ?_
          refine E_sub (M := mX12_silence) (lv' := []) [] rfl ?_
          exact S_X12_silence_159 x7 I L _ h
      · rw [if_neg c3] at h
        refine E_ldc2 (M := mX12_silence) 144 rfl dX12_silence_141 csl_X12_368 ?_
        refine E_goto (M := mX12_silence) 159 (by decide) dX12_silence_144 ?_
        refine E_sub (M := mX12_silence) (lv' := []) [] rfl ?_
        exact S_X12_silence_159 ((-1)) I L _ h
    · rw [if_neg c2] at h
      refine E_aload_n (M := mX12_silence) 74 rfl dX12_silence_73 rfl 0 rfl ?_
      refine E_iload (M := mX12_silence) 76 rfl dX12_silence_74 7 rfl ?_
      refine E_iload_n (M := mX12_silence) 77 rfl dX12_silence_76 rfl 1 rfl ?_
      replace h := Option.bind_eq_some_iff.mp h
      obtain ⟨v5, hv5, h⟩ := h
      refine E_cV1 (M := mX12_silence) (As := [.int x9, .int x1]) 80 rfl dX12_silence_77 shc_149 ck_X12_269 cv_X12_atOf rfl (by decide) (Nat.le_of_ble_eq_true rfl) (C_X12_atOf (g := g) hv5) rfl ?_
      refine E_if_ne (M := mX12_silence) 86 83 (by decide) rfl dX12_silence_80 (fun c6 => ?_) (fun c6 => ?_)
      · rw [if_neg c6] at h
        refine E_lconst (M := mX12_silence) (v := 1) 87 rfl dX12_silence_86 (by decide) ?_
        refine E_aload_n (M := mX12_silence) 88 rfl dX12_silence_87 rfl 0 rfl ?_
        refine E_iload (M := mX12_silence) 90 rfl dX12_silence_88 7 rfl ?_
        refine E_iload_n (M := mX12_silence) 91 rfl dX12_silence_90 rfl 2 rfl ?_
        replace h := Option.bind_eq_some_iff.mp h
        obtain ⟨v7, hv7, h⟩ := h
        refine E_cV1 (M := mX12_silence) (As := [.int x9, .int x2]) 94 rfl dX12_silence_91 shc_149 ck_X12_351 cv_X12_dueOf rfl (by decide) (Nat.le_of_ble_eq_true rfl) (C_X12_dueOf (g := g) hv7) rfl ?_
        refine E_iload_n (M := mX12_silence) 95 rfl dX12_silence_94 rfl 3 rfl ?_
        refine E_i2l (M := mX12_silence) 96 rfl dX12_silence_95 ?_
        refine E_ladd (M := mX12_silence) 97 rfl dX12_silence_96 ?_
        refine E_lconst (M := mX12_silence) (v := 1) 98 rfl dX12_silence_97 (by decide) ?_
        refine E_lsub (M := mX12_silence) 99 rfl dX12_silence_98 ?_
        refine E_iload_n (M := mX12_silence) 100 rfl dX12_silence_99 rfl 3 rfl ?_
        refine E_i2l (M := mX12_silence) 101 rfl dX12_silence_100 ?_
        replace h := Option.bind_eq_some_iff.mp h
        obtain ⟨v8, hv8, h⟩ := h
        refine E_dvL (M := mX12_silence) 102 rfl dX12_silence_101 hv8 ?_
        refine E_maxl (M := mX12_silence) 105 rfl dX12_silence_102 jm_X12_363 (by decide) (Nat.le_of_ble_eq_true rfl) ?_
        refine E_lstore (M := mX12_silence) (lv' := [(10, .long (if v8 < 1 then 1 else v8)), (0, .ref 149), (1, .int x1), (2, .int x2), (3, .int x3), (4, .int (bI x4)), (5, .long x5), (7, .long x7), (9, .int x9)]) 107 rfl dX12_silence_105 (Nat.le_of_ble_eq_true rfl) rfl ?_
        refine E_lload (M := mX12_silence) 109 rfl dX12_silence_107 6 rfl ?_
        refine E_lload (M := mX12_silence) 111 rfl dX12_silence_109 0 rfl ?_
        refine E_maxl (M := mX12_silence) 114 rfl dX12_silence_111 jm_X12_363 (by decide) (Nat.le_of_ble_eq_true rfl) ?_
        refine E_lstore (M := mX12_silence) (lv' := [(5, .long (if (if v8 < 1 then 1 else v8) < x5 then x5 else (if v8 < 1 then 1 else v8))), (10, .long (if v8 < 1 then 1 else v8)), (0, .ref 149), (1, .int x1), (2, .int x2), (3, .int x3), (4, .int (bI x4)), (7, .long x7), (9, .int x9)]) 116 rfl dX12_silence_114 (Nat.le_of_ble_eq_true rfl) rfl ?_
        refine E_lload (M := mX12_silence) 118 rfl dX12_silence_116 7 rfl ?_
        refine E_lload (M := mX12_silence) 120 rfl dX12_silence_118 1 rfl ?_
        refine E_iload_n (M := mX12_silence) 121 rfl dX12_silence_120 rfl 5 rfl ?_
        refine E_i2l (M := mX12_silence) 122 rfl dX12_silence_121 ?_
        refine E_lmul (M := mX12_silence) 123 rfl dX12_silence_122 ?_
        refine E_ladd (M := mX12_silence) 124 rfl dX12_silence_123 ?_
        refine E_lstore (M := mX12_silence) (lv' := [(7, .long (x7 + ((if v8 < 1 then 1 else v8) * x3.toInt64))), (5, .long (if (if v8 < 1 then 1 else v8) < x5 then x5 else (if v8 < 1 then 1 else v8))), (10, .long (if v8 < 1 then 1 else v8)), (0, .ref 149), (1, .int x1), (2, .int x2), (3, .int x3), (4, .int (bI x4)), (9, .int x9)]) 126 rfl dX12_silence_124 (Nat.le_of_ble_eq_true rfl) rfl ?_
        refine E_sub (M := mX12_silence) (lv' := [(0, .ref 149), (1, .int x1), (2, .int x2), (3, .int x3), (4, .int (bI x4)), (5, .long (if (if v8 < 1 then 1 else v8) < x5 then x5 else (if v8 < 1 then 1 else v8))), (7, .long (x7 + ((if v8 < 1 then 1 else v8) * x3.toInt64))), (9, .int x9)]) [3, 4, 5, 6, 7, 1, 0, 8] rfl ?_
        exact S_X12_silence_126 ih x1 x2 x3 x4 (if (if v8 < 1 then 1 else v8) < x5 then x5 else (if v8 < 1 then 1 else v8)) (x7 + ((if v8 < 1 then 1 else v8) * x3.toInt64)) x9 I L _ h
      · rw [if_pos c6] at h
        refine E_goto (M := mX12_silence) 126 (by decide) dX12_silence_83 ?_
        refine E_sub (M := mX12_silence) (lv' := [(0, .ref 149), (1, .int x1), (2, .int x2), (3, .int x3), (4, .int (bI x4)), (5, .long x5), (7, .long x7), (9, .int x9)]) [0, 1, 2, 3, 4, 5, 6, 7] rfl ?_
        exact S_X12_silence_126 ih x1 x2 x3 x4 x5 x7 x9 I L _ h
def f_X12_silence_49 (I : MI) (L : ML) : Option (Int64 × MI × ML) := some (0, I, L)
set_option maxRecDepth 100000 in
theorem S_X12_silence_49 {g : Gx} (I : MI) (L : ML) (res : Int64 × MI × ML) (h : f_X12_silence_49 I L = some res) : E g 9 0 mX12_silence 49 [] [] (I, L) (.inl (some (.long res.1))) (res.2.1, res.2.2) := by
  unfold f_X12_silence_49 at h
  refine E_lconst (M := mX12_silence) (v := 0) 50 rfl dX12_silence_49 (by decide) ?_
  cases h
  exact E_lret (M := mX12_silence) rfl dX12_silence_50
def f_X12_silence_42 (x1 : Int32) (x2 : Int32) (x3 : Int32) (x4 : Bool) (y1 : Bool) (I : MI) (L : ML) : Option (Int64 × MI × ML) := Option.bind (f_X12_throwsIf y1 2 I L) fun w1 => if w1.1 = true then (f_X12_silence_49 w1.2.1 w1.2.2) else (Option.bind (f_X12_spreads w1.2.1 w1.2.2) fun w3 => f_X12_silence_64 FU x1 x2 x3 x4 0 0 0 w3.1 w3.2)
set_option maxRecDepth 100000 in
theorem S_X12_silence_42 {g : Gx} (x1 : Int32) (x2 : Int32) (x3 : Int32) (x4 : Bool) (y1 : Bool) (I : MI) (L : ML) (res : Int64 × MI × ML) (h : f_X12_silence_42 x1 x2 x3 x4 y1 I L = some res) : E g 9 0 mX12_silence 42 [(0, .ref 149), (1, .int x1), (2, .int x2), (3, .int x3), (4, .int (bI x4))] [.int (bI y1), .ref 149] (I, L) (.inl (some (.long res.1))) (res.2.1, res.2.2) := by
  unfold f_X12_silence_42 at h
  refine E_iconst (M := mX12_silence) (v := 2) 43 rfl dX12_silence_42 (by decide) ?_
  replace h := Option.bind_eq_some_iff.mp h
  obtain ⟨w1, hw1, h⟩ := h
  refine E_cV1 (M := mX12_silence) (As := [.int (bI y1), .int 2]) 46 rfl dX12_silence_43 shc_149 ck_X12_245 cv_X12_throwsIf rfl (by decide) (Nat.le_of_ble_eq_true rfl) (C_X12_throwsIf (g := g) hw1) rfl ?_
  refine E_if_eqB (M := mX12_silence) 51 49 (by decide) rfl dX12_silence_46 (fun c2 => ?_) (fun c2 => ?_)
  · rw [if_neg (by rw [c2]; decide)] at h
    refine E_aload_n (M := mX12_silence) 52 rfl dX12_silence_51 rfl 0 rfl ?_
    replace h := Option.bind_eq_some_iff.mp h
    obtain ⟨w3, hw3, h⟩ := h
    refine E_cV0 (M := mX12_silence) (As := []) 55 rfl dX12_silence_52 shc_149 ck_X12_298 cv_X12_spreads rfl (by decide) (Nat.le_of_ble_eq_true rfl) (C_X12_spreads (g := g) hw3) rfl ?_
    refine E_lconst (M := mX12_silence) (v := 0) 56 rfl dX12_silence_55 (by decide) ?_
    refine E_lstore (M := mX12_silence) (lv' := [(5, .long 0), (0, .ref 149), (1, .int x1), (2, .int x2), (3, .int x3), (4, .int (bI x4))]) 58 rfl dX12_silence_56 (Nat.le_of_ble_eq_true rfl) rfl ?_
    refine E_lconst (M := mX12_silence) (v := 0) 59 rfl dX12_silence_58 (by decide) ?_
    refine E_lstore (M := mX12_silence) (lv' := [(7, .long 0), (5, .long 0), (0, .ref 149), (1, .int x1), (2, .int x2), (3, .int x3), (4, .int (bI x4))]) 61 rfl dX12_silence_59 (Nat.le_of_ble_eq_true rfl) rfl ?_
    refine E_iconst (M := mX12_silence) (v := 0) 62 rfl dX12_silence_61 (by decide) ?_
    refine E_istore (M := mX12_silence) (lv' := [(9, .int 0), (7, .long 0), (5, .long 0), (0, .ref 149), (1, .int x1), (2, .int x2), (3, .int x3), (4, .int (bI x4))]) 64 rfl dX12_silence_62 (Nat.le_of_ble_eq_true rfl) rfl ?_
    refine E_sub (M := mX12_silence) (lv' := [(0, .ref 149), (1, .int x1), (2, .int x2), (3, .int x3), (4, .int (bI x4)), (5, .long 0), (7, .long 0), (9, .int 0)]) [3, 4, 5, 6, 7, 2, 1, 0] rfl ?_
    exact S_X12_silence_64 FU x1 x2 x3 x4 0 0 0 w3.1 w3.2 _ h
  · rw [if_pos c2] at h
    refine E_sub (M := mX12_silence) (lv' := []) [] rfl ?_
    exact S_X12_silence_49 w1.2.1 w1.2.2 _ h
def f_X12_silence_37 (x1 : Int32) (x2 : Int32) (x3 : Int32) (x4 : Bool) (I : MI) (L : ML) : Option (Int64 × MI × ML) := f_X12_silence_42 x1 x2 x3 x4 true I L
set_option maxRecDepth 100000 in
theorem S_X12_silence_37 {g : Gx} (x1 : Int32) (x2 : Int32) (x3 : Int32) (x4 : Bool) (I : MI) (L : ML) (res : Int64 × MI × ML) (h : f_X12_silence_37 x1 x2 x3 x4 I L = some res) : E g 9 0 mX12_silence 37 [(0, .ref 149), (1, .int x1), (2, .int x2), (3, .int x3), (4, .int (bI x4))] [.ref 149] (I, L) (.inl (some (.long res.1))) (res.2.1, res.2.2) := by
  unfold f_X12_silence_37 at h
  refine E_iconst (M := mX12_silence) (v := 1) 38 rfl dX12_silence_37 (by decide) ?_
  refine E_goto (M := mX12_silence) 42 (by decide) dX12_silence_38 ?_
  refine E_sub (M := mX12_silence) (lv' := [(0, .ref 149), (1, .int x1), (2, .int x2), (3, .int x3), (4, .int (bI x4))]) [0, 1, 2, 3, 4] rfl ?_
  exact S_X12_silence_42 x1 x2 x3 x4 true I L _ h
def f_X12_silence (x1 : Int32) (x2 : Int32) (x3 : Int32) (x4 : Bool) (I : MI) (L : ML) : Option (Int64 × MI × ML) := Option.bind (pfI I 149 0 0) fun I1 => Option.bind (f_X12_noRoom x1 I1 L) fun v2 => Option.bind (f_X12_throwsIf v2 1 I1 L) fun w3 => if w3.1 = true then (f_X12_silence_49 w3.2.1 w3.2.2) else (Option.bind (f_X12_noDays x2 w3.2.1 w3.2.2) fun v5 => if v5 = true then (f_X12_silence_37 x1 x2 x3 x4 w3.2.1 w3.2.2) else (Option.bind (f_X12_in x3 1 999 w3.2.1 w3.2.2) fun v7 => if v7 = true then (f_X12_silence_42 x1 x2 x3 x4 false w3.2.1 w3.2.2) else (f_X12_silence_37 x1 x2 x3 x4 w3.2.1 w3.2.2)))
set_option maxRecDepth 100000 in
theorem S_X12_silence {g : Gx} (x1 : Int32) (x2 : Int32) (x3 : Int32) (x4 : Bool) (I : MI) (L : ML) (res : Int64 × MI × ML) (h : f_X12_silence x1 x2 x3 x4 I L = some res) : E g 9 0 mX12_silence 0 [(0, .ref 149), (1, .int x1), (2, .int x2), (3, .int x3), (4, .int (bI x4))] [] (I, L) (.inl (some (.long res.1))) (res.2.1, res.2.2) := by
  unfold f_X12_silence at h
  refine E_aload_n (M := mX12_silence) 1 rfl dX12_silence_0 rfl 0 rfl ?_
  refine E_iconst (M := mX12_silence) (v := 0) 2 rfl dX12_silence_1 (by decide) ?_
  replace h := Option.bind_eq_some_iff.mp h
  obtain ⟨I1, hI1, h⟩ := h
  refine E_pfI (M := mX12_silence) 5 rfl dX12_silence_2 shc_149 fl_X12_3 rfl hI1 ?_
  refine E_aload_n (M := mX12_silence) 6 rfl dX12_silence_5 rfl 0 rfl ?_
  refine E_aload_n (M := mX12_silence) 7 rfl dX12_silence_6 rfl 0 rfl ?_
  refine E_iload_n (M := mX12_silence) 8 rfl dX12_silence_7 rfl 1 rfl ?_
  replace h := Option.bind_eq_some_iff.mp h
  obtain ⟨v2, hv2, h⟩ := h
  refine E_cV1 (M := mX12_silence) (As := [.int x1]) 11 rfl dX12_silence_8 shc_149 ck_X12_292 cv_X12_noRoom rfl (by decide) (Nat.le_of_ble_eq_true rfl) (C_X12_noRoom (g := g) hv2) rfl ?_
  refine E_iconst (M := mX12_silence) (v := 1) 12 rfl dX12_silence_11 (by decide) ?_
  replace h := Option.bind_eq_some_iff.mp h
  obtain ⟨w3, hw3, h⟩ := h
  refine E_cV1 (M := mX12_silence) (As := [.int (bI v2), .int 1]) 15 rfl dX12_silence_12 shc_149 ck_X12_245 cv_X12_throwsIf rfl (by decide) (Nat.le_of_ble_eq_true rfl) (C_X12_throwsIf (g := g) hw3) rfl ?_
  refine E_if_neB (M := mX12_silence) 49 18 (by decide) rfl dX12_silence_15 (fun c4 => ?_) (fun c4 => ?_)
  · rw [if_pos c4] at h
    refine E_sub (M := mX12_silence) (lv' := []) [] rfl ?_
    exact S_X12_silence_49 w3.2.1 w3.2.2 _ h
  · rw [if_neg (by rw [c4]; decide)] at h
    refine E_aload_n (M := mX12_silence) 19 rfl dX12_silence_18 rfl 0 rfl ?_
    refine E_iload_n (M := mX12_silence) 20 rfl dX12_silence_19 rfl 2 rfl ?_
    replace h := Option.bind_eq_some_iff.mp h
    obtain ⟨v5, hv5, h⟩ := h
    refine E_cS1 (M := mX12_silence) (As := [.int x2]) 23 rfl dX12_silence_20 ck_X12_348 ss_X12_noDays rfl (by decide) (Nat.le_of_ble_eq_true rfl) (C_X12_noDays (g := g) hv5) rfl ?_
    refine E_if_neB (M := mX12_silence) 37 26 (by decide) rfl dX12_silence_23 (fun c6 => ?_) (fun c6 => ?_)
    · rw [if_pos c6] at h
      refine E_sub (M := mX12_silence) (lv' := [(0, .ref 149), (1, .int x1), (2, .int x2), (3, .int x3), (4, .int (bI x4))]) [0, 1, 2, 3, 4] rfl ?_
      exact S_X12_silence_37 x1 x2 x3 x4 w3.2.1 w3.2.2 _ h
    · rw [if_neg (by rw [c6]; decide)] at h
      refine E_iload_n (M := mX12_silence) 27 rfl dX12_silence_26 rfl 3 rfl ?_
      refine E_iconst (M := mX12_silence) (v := 1) 28 rfl dX12_silence_27 (by decide) ?_
      refine E_sipush (M := mX12_silence) (v := 999) 31 rfl dX12_silence_28 (by decide) ?_
      replace h := Option.bind_eq_some_iff.mp h
      obtain ⟨v7, hv7, h⟩ := h
      refine E_cS1 (M := mX12_silence) (As := [.int x3, .int 1, .int 999]) 34 rfl dX12_silence_31 ck_X12_60 ss_X12_in rfl (by decide) (Nat.le_of_ble_eq_true rfl) (C_X12_in (g := g) hv7) rfl ?_
      refine E_if_neB (M := mX12_silence) 41 37 (by decide) rfl dX12_silence_34 (fun c8 => ?_) (fun c8 => ?_)
      · rw [if_pos c8] at h
        refine E_iconst (M := mX12_silence) (v := 0) 42 rfl dX12_silence_41 (by decide) ?_
        refine E_sub (M := mX12_silence) (lv' := [(0, .ref 149), (1, .int x1), (2, .int x2), (3, .int x3), (4, .int (bI x4))]) [0, 1, 2, 3, 4] rfl ?_
        exact S_X12_silence_42 x1 x2 x3 x4 false w3.2.1 w3.2.2 _ h
      · rw [if_neg (by rw [c8]; decide)] at h
        refine E_sub (M := mX12_silence) (lv' := [(0, .ref 149), (1, .int x1), (2, .int x2), (3, .int x3), (4, .int (bI x4))]) [0, 1, 2, 3, 4] rfl ?_
        exact S_X12_silence_37 x1 x2 x3 x4 w3.2.1 w3.2.2 _ h
theorem C_X12_silence {g : Gx} {x1 : Int32} {x2 : Int32} {x3 : Int32} {x4 : Bool} {I : MI} {L : ML} {res : Int64 × MI × ML} (h : f_X12_silence x1 x2 x3 x4 I L = some res) : Ent g 9 0 mX12_silence [.ref 149, .int x1, .int x2, .int x3, .int (bI x4)] (I, L) (.inl (some (.long res.1))) (res.2.1, res.2.2) := Ent_of (by decide +kernel) (Nat.le_of_ble_eq_true rfl) (S_X12_silence x1 x2 x3 x4 I L _ h)
def f_X12_ears_118 (y0 : Int32) (I : MI) (L : ML) : Option (Int32 × MI × ML) := some (y0, I, L)
set_option maxRecDepth 100000 in
theorem S_X12_ears_118 {g : Gx} (y0 : Int32) (I : MI) (L : ML) (res : Int32 × MI × ML) (h : f_X12_ears_118 y0 I L = some res) : E g 7 0 mX12_ears 118 [] [.int y0] (I, L) (.inl (some (.int res.1))) (res.2.1, res.2.2) := by
  unfold f_X12_ears_118 at h
  cases h
  exact E_iret (M := mX12_ears) rfl dX12_ears_118
def f_X12_ears_81 (k45 : Int32 → Int32 → Int32 → Int32 → MI → ML → Option (Int32 × MI × ML)) (x1 : Int32) (x2 : Int32) (x4 : Int32) (y0 : Int32) (y1 : Int32) (I : MI) (L : ML) : Option (Int32 × MI × ML) := k45 x1 x2 (y0 + y1) (x4 + 1) I L
set_option maxRecDepth 100000 in
theorem S_X12_ears_81 {g : Gx} {k45 : Int32 → Int32 → Int32 → Int32 → MI → ML → Option (Int32 × MI × ML)} (hk45 : ∀ (x1z : Int32) (x2z : Int32) (x3z : Int32) (x4z : Int32) (I : MI) (L : ML) (res : Int32 × MI × ML), k45 x1z x2z x3z x4z I L = some res → E g 7 0 mX12_ears 45 [(0, .ref 149), (1, .int x1z), (2, .int x2z), (3, .int x3z), (4, .int x4z)] [] (I, L) (.inl (some (.int res.1))) (res.2.1, res.2.2)) (x1 : Int32) (x2 : Int32) (x4 : Int32) (y0 : Int32) (y1 : Int32) (I : MI) (L : ML) (res : Int32 × MI × ML) (h : f_X12_ears_81 k45 x1 x2 x4 y0 y1 I L = some res) : E g 7 0 mX12_ears 81 [(0, .ref 149), (1, .int x1), (2, .int x2), (4, .int x4)] [.int y1, .int y0] (I, L) (.inl (some (.int res.1))) (res.2.1, res.2.2) := by
  unfold f_X12_ears_81 at h
  refine E_iadd (M := mX12_ears) 82 rfl dX12_ears_81 ?_
  refine E_istore_n (M := mX12_ears) (lv' := [(3, .int (y0 + y1)), (0, .ref 149), (1, .int x1), (2, .int x2), (4, .int x4)]) 83 rfl dX12_ears_82 rfl (Nat.le_of_ble_eq_true rfl) rfl ?_
  refine E_iinc (M := mX12_ears) (j := 4) (v := x4 + 1) (lv' := [(4, .int (x4 + 1)), (3, .int (y0 + y1)), (0, .ref 149), (1, .int x1), (2, .int x2)]) 86 rfl dX12_ears_83 rfl rfl (Nat.le_of_ble_eq_true rfl) rfl ?_
  refine E_goto (M := mX12_ears) 45 (by decide) dX12_ears_86 ?_
  refine E_sub (M := mX12_ears) (lv' := [(0, .ref 149), (1, .int x1), (2, .int x2), (3, .int (y0 + y1)), (4, .int (x4 + 1))]) [2, 3, 4, 1, 0] rfl ?_
  exact hk45 x1 x2 (y0 + y1) (x4 + 1) I L _ h
def f_X12_ears_45 : Nat → Int32 → Int32 → Int32 → Int32 → MI → ML → Option (Int32 × MI × ML)
  | 0, _, _, _, _, _, _ => none
  | n + 1, x1, x2, x3, x4, I, L => Option.bind (f_X12_heirs I L) fun v1 => if v1 ≤ x4 then (Option.bind (f_X12_isHearing x1 x2 I L) fun v3 => if v3 = true then (Option.bind (f_X12_ofHeir x1 0 I L) fun v5 => Option.bind (f_X12_atOf x2 v5 I L) fun v6 => Option.bind (dvI (100 * v6) x3) fun v7 => f_X12_ears_118 v7 I L) else (f_X12_ears_118 0 I L)) else (Option.bind (f_X12_isHearing x4 x2 I L) fun v8 => if v8 = true then (Option.bind (f_X12_ofHeir x4 0 I L) fun v10 => Option.bind (f_X12_atOf x2 v10 I L) fun v11 => f_X12_ears_81 (f_X12_ears_45 n) x1 x2 x4 x3 v11 I L) else (f_X12_ears_81 (f_X12_ears_45 n) x1 x2 x4 x3 0 I L))
set_option maxRecDepth 100000 in
theorem S_X12_ears_45 {g : Gx} : ∀ (n : Nat) (x1 : Int32) (x2 : Int32) (x3 : Int32) (x4 : Int32) (I : MI) (L : ML) (res : Int32 × MI × ML), f_X12_ears_45 n x1 x2 x3 x4 I L = some res → E g 7 0 mX12_ears 45 [(0, .ref 149), (1, .int x1), (2, .int x2), (3, .int x3), (4, .int x4)] [] (I, L) (.inl (some (.int res.1))) (res.2.1, res.2.2) := by
  intro n
  induction n with
  | zero =>
    intros
    rename_i h
    cases h
  | succ n ih =>
    intro x1 x2 x3 x4 I L res h
    rw [f_X12_ears_45] at h
    refine E_iload (M := mX12_ears) 47 rfl dX12_ears_45 4 rfl ?_
    refine E_aload_n (M := mX12_ears) 48 rfl dX12_ears_47 rfl 0 rfl ?_
    replace h := Option.bind_eq_some_iff.mp h
    obtain ⟨v1, hv1, h⟩ := h
    refine E_cV1 (M := mX12_ears) (As := []) 51 rfl dX12_ears_48 shc_149 ck_X12_64 cv_X12_heirs rfl (by decide) (Nat.le_of_ble_eq_true rfl) (C_X12_heirs (g := g) hv1) rfl ?_
    refine E_icmp_ge (M := mX12_ears) 89 54 (by decide) rfl dX12_ears_51 (fun c2 => ?_) (fun c2 => ?_)
    · rw [if_pos c2] at h
      refine E_aload_n (M := mX12_ears) 90 rfl dX12_ears_89 rfl 0 rfl ?_
      refine E_iload_n (M := mX12_ears) 91 rfl dX12_ears_90 rfl 1 rfl ?_
      refine E_iload_n (M := mX12_ears) 92 rfl dX12_ears_91 rfl 2 rfl ?_
      replace h := Option.bind_eq_some_iff.mp h
      obtain ⟨v3, hv3, h⟩ := h
      refine E_cV1 (M := mX12_ears) (As := [.int x1, .int x2]) 95 rfl dX12_ears_92 shc_149 ck_X12_272 cv_X12_isHearing rfl (by decide) (Nat.le_of_ble_eq_true rfl) (C_X12_isHearing (g := g) hv3) rfl ?_
      refine E_if_eqB (M := mX12_ears) 117 98 (by decide) rfl dX12_ears_95 (fun c4 => ?_) (fun c4 => ?_)
      · rw [if_neg (by rw [c4]; decide)] at h
        refine E_iconst (M := mX12_ears) (v := 0) 118 rfl dX12_ears_117 (by decide) ?_
        refine E_sub (M := mX12_ears) (lv' := []) [] rfl ?_
        exact S_X12_ears_118 0 I L _ h
      · rw [if_pos c4] at h
        refine E_bipush (M := mX12_ears) (v := 100) 100 rfl dX12_ears_98 (by decide) ?_
        refine E_aload_n (M := mX12_ears) 101 rfl dX12_ears_100 rfl 0 rfl ?_
        refine E_iload_n (M := mX12_ears) 102 rfl dX12_ears_101 rfl 2 rfl ?_
        refine E_aload_n (M := mX12_ears) 103 rfl dX12_ears_102 rfl 0 rfl ?_
        refine E_iload_n (M := mX12_ears) 104 rfl dX12_ears_103 rfl 1 rfl ?_
        refine E_iconst (M := mX12_ears) (v := 0) 105 rfl dX12_ears_104 (by decide) ?_
        replace h := Option.bind_eq_some_iff.mp h
        obtain ⟨v5, hv5, h⟩ := h
        refine E_cV1 (M := mX12_ears) (As := [.int x1, .int 0]) 108 rfl dX12_ears_105 shc_149 ck_X12_266 cv_X12_ofHeir rfl (by decide) (Nat.le_of_ble_eq_true rfl) (C_X12_ofHeir (g := g) hv5) rfl ?_
        replace h := Option.bind_eq_some_iff.mp h
        obtain ⟨v6, hv6, h⟩ := h
        refine E_cV1 (M := mX12_ears) (As := [.int x2, .int v5]) 111 rfl dX12_ears_108 shc_149 ck_X12_269 cv_X12_atOf rfl (by decide) (Nat.le_of_ble_eq_true rfl) (C_X12_atOf (g := g) hv6) rfl ?_
        refine E_imul (M := mX12_ears) 112 rfl dX12_ears_111 ?_
        refine E_iload_n (M := mX12_ears) 113 rfl dX12_ears_112 rfl 3 rfl ?_
        replace h := Option.bind_eq_some_iff.mp h
        obtain ⟨v7, hv7, h⟩ := h
        refine E_dvI (M := mX12_ears) 114 rfl dX12_ears_113 hv7 ?_
        refine E_goto (M := mX12_ears) 118 (by decide) dX12_ears_114 ?_
        refine E_sub (M := mX12_ears) (lv' := []) [] rfl ?_
        exact S_X12_ears_118 v7 I L _ h
    · rw [if_neg c2] at h
      refine E_iload_n (M := mX12_ears) 55 rfl dX12_ears_54 rfl 3 rfl ?_
      refine E_aload_n (M := mX12_ears) 56 rfl dX12_ears_55 rfl 0 rfl ?_
      refine E_iload (M := mX12_ears) 58 rfl dX12_ears_56 4 rfl ?_
      refine E_iload_n (M := mX12_ears) 59 rfl dX12_ears_58 rfl 2 rfl ?_
      replace h := Option.bind_eq_some_iff.mp h
      obtain ⟨v8, hv8, h⟩ := h
      refine E_cV1 (M := mX12_ears) (As := [.int x4, .int x2]) 62 rfl dX12_ears_59 shc_149 ck_X12_272 cv_X12_isHearing rfl (by decide) (Nat.le_of_ble_eq_true rfl) (C_X12_isHearing (g := g) hv8) rfl ?_
      refine E_if_eqB (M := mX12_ears) 80 65 (by decide) rfl dX12_ears_62 (fun c9 => ?_) (fun c9 => ?_)
      · rw [if_neg (by rw [c9]; decide)] at h
        refine E_iconst (M := mX12_ears) (v := 0) 81 rfl dX12_ears_80 (by decide) ?_
        refine E_sub (M := mX12_ears) (lv' := [(0, .ref 149), (1, .int x1), (2, .int x2), (4, .int x4)]) [0, 1, 2, 4] rfl ?_
        exact S_X12_ears_81 ih x1 x2 x4 x3 0 I L _ h
      · rw [if_pos c9] at h
        refine E_aload_n (M := mX12_ears) 66 rfl dX12_ears_65 rfl 0 rfl ?_
        refine E_iload_n (M := mX12_ears) 67 rfl dX12_ears_66 rfl 2 rfl ?_
        refine E_aload_n (M := mX12_ears) 68 rfl dX12_ears_67 rfl 0 rfl ?_
        refine E_iload (M := mX12_ears) 70 rfl dX12_ears_68 4 rfl ?_
        refine E_iconst (M := mX12_ears) (v := 0) 71 rfl dX12_ears_70 (by decide) ?_
        replace h := Option.bind_eq_some_iff.mp h
        obtain ⟨v10, hv10, h⟩ := h
        refine E_cV1 (M := mX12_ears) (As := [.int x4, .int 0]) 74 rfl dX12_ears_71 shc_149 ck_X12_266 cv_X12_ofHeir rfl (by decide) (Nat.le_of_ble_eq_true rfl) (C_X12_ofHeir (g := g) hv10) rfl ?_
        replace h := Option.bind_eq_some_iff.mp h
        obtain ⟨v11, hv11, h⟩ := h
        refine E_cV1 (M := mX12_ears) (As := [.int x2, .int v10]) 77 rfl dX12_ears_74 shc_149 ck_X12_269 cv_X12_atOf rfl (by decide) (Nat.le_of_ble_eq_true rfl) (C_X12_atOf (g := g) hv11) rfl ?_
        refine E_goto (M := mX12_ears) 81 (by decide) dX12_ears_77 ?_
        refine E_sub (M := mX12_ears) (lv' := [(0, .ref 149), (1, .int x1), (2, .int x2), (4, .int x4)]) [0, 1, 2, 4] rfl ?_
        exact S_X12_ears_81 ih x1 x2 x4 x3 v11 I L _ h
def f_X12_ears_27 (x1 : Int32) (x2 : Int32) (y1 : Bool) (I : MI) (L : ML) : Option (Int32 × MI × ML) := Option.bind (f_X12_throwsIf y1 1 I L) fun w1 => if w1.1 = true then (some (0, w1.2.1, w1.2.2)) else (Option.bind (f_X12_spreads w1.2.1 w1.2.2) fun w3 => f_X12_ears_45 FU x1 x2 0 0 w3.1 w3.2)
set_option maxRecDepth 100000 in
theorem S_X12_ears_27 {g : Gx} (x1 : Int32) (x2 : Int32) (y1 : Bool) (I : MI) (L : ML) (res : Int32 × MI × ML) (h : f_X12_ears_27 x1 x2 y1 I L = some res) : E g 7 0 mX12_ears 27 [(0, .ref 149), (1, .int x1), (2, .int x2)] [.int (bI y1), .ref 149] (I, L) (.inl (some (.int res.1))) (res.2.1, res.2.2) := by
  unfold f_X12_ears_27 at h
  refine E_iconst (M := mX12_ears) (v := 1) 28 rfl dX12_ears_27 (by decide) ?_
  replace h := Option.bind_eq_some_iff.mp h
  obtain ⟨w1, hw1, h⟩ := h
  refine E_cV1 (M := mX12_ears) (As := [.int (bI y1), .int 1]) 31 rfl dX12_ears_28 shc_149 ck_X12_245 cv_X12_throwsIf rfl (by decide) (Nat.le_of_ble_eq_true rfl) (C_X12_throwsIf (g := g) hw1) rfl ?_
  refine E_if_eqB (M := mX12_ears) 36 34 (by decide) rfl dX12_ears_31 (fun c2 => ?_) (fun c2 => ?_)
  · rw [if_neg (by rw [c2]; decide)] at h
    refine E_aload_n (M := mX12_ears) 37 rfl dX12_ears_36 rfl 0 rfl ?_
    replace h := Option.bind_eq_some_iff.mp h
    obtain ⟨w3, hw3, h⟩ := h
    refine E_cV0 (M := mX12_ears) (As := []) 40 rfl dX12_ears_37 shc_149 ck_X12_298 cv_X12_spreads rfl (by decide) (Nat.le_of_ble_eq_true rfl) (C_X12_spreads (g := g) hw3) rfl ?_
    refine E_iconst (M := mX12_ears) (v := 0) 41 rfl dX12_ears_40 (by decide) ?_
    refine E_istore_n (M := mX12_ears) (lv' := [(3, .int 0), (0, .ref 149), (1, .int x1), (2, .int x2)]) 42 rfl dX12_ears_41 rfl (Nat.le_of_ble_eq_true rfl) rfl ?_
    refine E_iconst (M := mX12_ears) (v := 0) 43 rfl dX12_ears_42 (by decide) ?_
    refine E_istore (M := mX12_ears) (lv' := [(4, .int 0), (3, .int 0), (0, .ref 149), (1, .int x1), (2, .int x2)]) 45 rfl dX12_ears_43 (Nat.le_of_ble_eq_true rfl) rfl ?_
    refine E_sub (M := mX12_ears) (lv' := [(0, .ref 149), (1, .int x1), (2, .int x2), (3, .int 0), (4, .int 0)]) [2, 3, 4, 1, 0] rfl ?_
    exact S_X12_ears_45 FU x1 x2 0 0 w3.1 w3.2 _ h
  · rw [if_pos c2] at h
    refine E_iconst (M := mX12_ears) (v := 0) 35 rfl dX12_ears_34 (by decide) ?_
    cases h
    exact E_iret (M := mX12_ears) rfl dX12_ears_35
def f_X12_ears_22 (x1 : Int32) (x2 : Int32) (I : MI) (L : ML) : Option (Int32 × MI × ML) := f_X12_ears_27 x1 x2 true I L
set_option maxRecDepth 100000 in
theorem S_X12_ears_22 {g : Gx} (x1 : Int32) (x2 : Int32) (I : MI) (L : ML) (res : Int32 × MI × ML) (h : f_X12_ears_22 x1 x2 I L = some res) : E g 7 0 mX12_ears 22 [(0, .ref 149), (1, .int x1), (2, .int x2)] [.ref 149] (I, L) (.inl (some (.int res.1))) (res.2.1, res.2.2) := by
  unfold f_X12_ears_22 at h
  refine E_iconst (M := mX12_ears) (v := 1) 23 rfl dX12_ears_22 (by decide) ?_
  refine E_goto (M := mX12_ears) 27 (by decide) dX12_ears_23 ?_
  refine E_sub (M := mX12_ears) (lv' := [(0, .ref 149), (1, .int x1), (2, .int x2)]) [0, 1, 2] rfl ?_
  exact S_X12_ears_27 x1 x2 true I L _ h
def f_X12_ears (x1 : Int32) (x2 : Int32) (I : MI) (L : ML) : Option (Int32 × MI × ML) := Option.bind (pfI I 149 0 0) fun I1 => Option.bind (f_X12_noHeir x1 I1 L) fun v2 => if v2 = true then (f_X12_ears_22 x1 x2 I1 L) else (Option.bind (f_X12_noNoise x2 I1 L) fun v4 => if v4 = true then (f_X12_ears_22 x1 x2 I1 L) else (f_X12_ears_27 x1 x2 false I1 L))
set_option maxRecDepth 100000 in
theorem S_X12_ears {g : Gx} (x1 : Int32) (x2 : Int32) (I : MI) (L : ML) (res : Int32 × MI × ML) (h : f_X12_ears x1 x2 I L = some res) : E g 7 0 mX12_ears 0 [(0, .ref 149), (1, .int x1), (2, .int x2)] [] (I, L) (.inl (some (.int res.1))) (res.2.1, res.2.2) := by
  unfold f_X12_ears at h
  refine E_aload_n (M := mX12_ears) 1 rfl dX12_ears_0 rfl 0 rfl ?_
  refine E_iconst (M := mX12_ears) (v := 0) 2 rfl dX12_ears_1 (by decide) ?_
  replace h := Option.bind_eq_some_iff.mp h
  obtain ⟨I1, hI1, h⟩ := h
  refine E_pfI (M := mX12_ears) 5 rfl dX12_ears_2 shc_149 fl_X12_3 rfl hI1 ?_
  refine E_aload_n (M := mX12_ears) 6 rfl dX12_ears_5 rfl 0 rfl ?_
  refine E_aload_n (M := mX12_ears) 7 rfl dX12_ears_6 rfl 0 rfl ?_
  refine E_iload_n (M := mX12_ears) 8 rfl dX12_ears_7 rfl 1 rfl ?_
  replace h := Option.bind_eq_some_iff.mp h
  obtain ⟨v2, hv2, h⟩ := h
  refine E_cV1 (M := mX12_ears) (As := [.int x1]) 11 rfl dX12_ears_8 shc_149 ck_X12_301 cv_X12_noHeir rfl (by decide) (Nat.le_of_ble_eq_true rfl) (C_X12_noHeir (g := g) hv2) rfl ?_
  refine E_if_neB (M := mX12_ears) 22 14 (by decide) rfl dX12_ears_11 (fun c3 => ?_) (fun c3 => ?_)
  · rw [if_pos c3] at h
    refine E_sub (M := mX12_ears) (lv' := [(0, .ref 149), (1, .int x1), (2, .int x2)]) [0, 1, 2] rfl ?_
    exact S_X12_ears_22 x1 x2 I1 L _ h
  · rw [if_neg (by rw [c3]; decide)] at h
    refine E_aload_n (M := mX12_ears) 15 rfl dX12_ears_14 rfl 0 rfl ?_
    refine E_iload_n (M := mX12_ears) 16 rfl dX12_ears_15 rfl 2 rfl ?_
    replace h := Option.bind_eq_some_iff.mp h
    obtain ⟨v4, hv4, h⟩ := h
    refine E_cV1 (M := mX12_ears) (As := [.int x2]) 19 rfl dX12_ears_16 shc_149 ck_X12_304 cv_X12_noNoise rfl (by decide) (Nat.le_of_ble_eq_true rfl) (C_X12_noNoise (g := g) hv4) rfl ?_
    refine E_if_eqB (M := mX12_ears) 26 22 (by decide) rfl dX12_ears_19 (fun c5 => ?_) (fun c5 => ?_)
    · rw [if_neg (by rw [c5]; decide)] at h
      refine E_iconst (M := mX12_ears) (v := 0) 27 rfl dX12_ears_26 (by decide) ?_
      refine E_sub (M := mX12_ears) (lv' := [(0, .ref 149), (1, .int x1), (2, .int x2)]) [0, 1, 2] rfl ?_
      exact S_X12_ears_27 x1 x2 false I1 L _ h
    · rw [if_pos c5] at h
      refine E_sub (M := mX12_ears) (lv' := [(0, .ref 149), (1, .int x1), (2, .int x2)]) [0, 1, 2] rfl ?_
      exact S_X12_ears_22 x1 x2 I1 L _ h
theorem C_X12_ears {g : Gx} {x1 : Int32} {x2 : Int32} {I : MI} {L : ML} {res : Int32 × MI × ML} (h : f_X12_ears x1 x2 I L = some res) : Ent g 7 0 mX12_ears [.ref 149, .int x1, .int x2] (I, L) (.inl (some (.int res.1))) (res.2.1, res.2.2) := Ent_of (by decide +kernel) (Nat.le_of_ble_eq_true rfl) (S_X12_ears x1 x2 I L _ h)
