def f_X12_seat_149 (k31 : Int32 → Int32 → Int64 → Int32 → MI → ML → Option (Int32 × MI × ML)) (x1 : Int32) (x2 : Int32) (x3 : Int64) (x5 : Int32) (I : MI) (L : ML) : Option (Int32 × MI × ML) := k31 x1 x2 x3 (x5 + 1) I L
set_option maxRecDepth 100000 in
theorem S_X12_seat_149 {g : Gx} {k31 : Int32 → Int32 → Int64 → Int32 → MI → ML → Option (Int32 × MI × ML)} (hk31 : ∀ (x1z : Int32) (x2z : Int32) (x3z : Int64) (x5z : Int32) (I : MI) (L : ML) (res : Int32 × MI × ML), k31 x1z x2z x3z x5z I L = some res → E g 11 0 mX12_seat 31 [(0, .ref 149), (1, .int x1z), (2, .int x2z), (3, .long x3z), (5, .int x5z)] [] (I, L) (.inl (some (.int res.1))) (res.2.1, res.2.2)) (x1 : Int32) (x2 : Int32) (x3 : Int64) (x5 : Int32) (I : MI) (L : ML) (res : Int32 × MI × ML) (h : f_X12_seat_149 k31 x1 x2 x3 x5 I L = some res) : E g 11 0 mX12_seat 149 [(0, .ref 149), (1, .int x1), (2, .int x2), (3, .long x3), (5, .int x5)] [] (I, L) (.inl (some (.int res.1))) (res.2.1, res.2.2) := by
  unfold f_X12_seat_149 at h
  refine E_iinc (M := mX12_seat) (j := 4) (v := x5 + 1) (lv' := [(5, .int (x5 + 1)), (0, .ref 149), (1, .int x1), (2, .int x2), (3, .long x3)]) 152 rfl dX12_seat_149 rfl rfl (Nat.le_of_ble_eq_true rfl) rfl ?_
  refine E_goto (M := mX12_seat) 31 (by decide) dX12_seat_152 ?_
  refine E_sub (M := mX12_seat) (lv' := [(0, .ref 149), (1, .int x1), (2, .int x2), (3, .long x3), (5, .int (x5 + 1))]) [1, 2, 3, 4, 0] rfl ?_
  exact hk31 x1 x2 x3 (x5 + 1) I L _ h
def f_X12_seat_143 (k31 : Int32 → Int32 → Int64 → Int32 → MI → ML → Option (Int32 × MI × ML)) (x1 : Int32) (x5 : Int32) (x6 : Int64) (I : MI) (L : ML) : Option (Int32 × MI × ML) := f_X12_seat_149 k31 x1 x5 x6 x5 I L
set_option maxRecDepth 100000 in
theorem S_X12_seat_143 {g : Gx} {k31 : Int32 → Int32 → Int64 → Int32 → MI → ML → Option (Int32 × MI × ML)} (hk31 : ∀ (x1z : Int32) (x2z : Int32) (x3z : Int64) (x5z : Int32) (I : MI) (L : ML) (res : Int32 × MI × ML), k31 x1z x2z x3z x5z I L = some res → E g 11 0 mX12_seat 31 [(0, .ref 149), (1, .int x1z), (2, .int x2z), (3, .long x3z), (5, .int x5z)] [] (I, L) (.inl (some (.int res.1))) (res.2.1, res.2.2)) (x1 : Int32) (x5 : Int32) (x6 : Int64) (I : MI) (L : ML) (res : Int32 × MI × ML) (h : f_X12_seat_143 k31 x1 x5 x6 I L = some res) : E g 11 0 mX12_seat 143 [(0, .ref 149), (1, .int x1), (5, .int x5), (6, .long x6)] [] (I, L) (.inl (some (.int res.1))) (res.2.1, res.2.2) := by
  unfold f_X12_seat_143 at h
  refine E_iload (M := mX12_seat) 145 rfl dX12_seat_143 2 rfl ?_
  refine E_istore_n (M := mX12_seat) (lv' := [(2, .int x5), (0, .ref 149), (1, .int x1), (5, .int x5), (6, .long x6)]) 146 rfl dX12_seat_145 rfl (Nat.le_of_ble_eq_true rfl) rfl ?_
  refine E_lload (M := mX12_seat) 148 rfl dX12_seat_146 4 rfl ?_
  refine E_lstore_n (M := mX12_seat) (lv' := [(3, .long x6), (2, .int x5), (0, .ref 149), (1, .int x1), (5, .int x5), (6, .long x6)]) 149 rfl dX12_seat_148 rfl (Nat.le_of_ble_eq_true rfl) rfl ?_
  refine E_sub (M := mX12_seat) (lv' := [(0, .ref 149), (1, .int x1), (2, .int x5), (3, .long x6), (5, .int x5)]) [2, 3, 1, 0, 4] rfl ?_
  exact S_X12_seat_149 hk31 x1 x5 x6 x5 I L _ h
def f_X12_seat_120 (k46 : Int32 → Int32 → Int64 → Int32 → Int64 → Int32 → MI → ML → Option (Int32 × MI × ML)) (x1 : Int32) (x2 : Int32) (x3 : Int64) (x5 : Int32) (x8 : Int32) (y0 : Int64) (y1 : Int64) (I : MI) (L : ML) : Option (Int32 × MI × ML) := k46 x1 x2 x3 x5 (y0 + y1) (x8 + 1) I L
set_option maxRecDepth 100000 in
theorem S_X12_seat_120 {g : Gx} {k46 : Int32 → Int32 → Int64 → Int32 → Int64 → Int32 → MI → ML → Option (Int32 × MI × ML)} (hk46 : ∀ (x1z : Int32) (x2z : Int32) (x3z : Int64) (x5z : Int32) (x6z : Int64) (x8z : Int32) (I : MI) (L : ML) (res : Int32 × MI × ML), k46 x1z x2z x3z x5z x6z x8z I L = some res → E g 11 0 mX12_seat 46 [(0, .ref 149), (1, .int x1z), (2, .int x2z), (3, .long x3z), (5, .int x5z), (6, .long x6z), (8, .int x8z)] [] (I, L) (.inl (some (.int res.1))) (res.2.1, res.2.2)) (x1 : Int32) (x2 : Int32) (x3 : Int64) (x5 : Int32) (x8 : Int32) (y0 : Int64) (y1 : Int64) (I : MI) (L : ML) (res : Int32 × MI × ML) (h : f_X12_seat_120 k46 x1 x2 x3 x5 x8 y0 y1 I L = some res) : E g 11 0 mX12_seat 120 [(0, .ref 149), (1, .int x1), (2, .int x2), (3, .long x3), (5, .int x5), (8, .int x8)] [.long y1, .long y0] (I, L) (.inl (some (.int res.1))) (res.2.1, res.2.2) := by
  unfold f_X12_seat_120 at h
  refine E_ladd (M := mX12_seat) 121 rfl dX12_seat_120 ?_
  refine E_lstore (M := mX12_seat) (lv' := [(6, .long (y0 + y1)), (0, .ref 149), (1, .int x1), (2, .int x2), (3, .long x3), (5, .int x5), (8, .int x8)]) 123 rfl dX12_seat_121 (Nat.le_of_ble_eq_true rfl) rfl ?_
  refine E_iinc (M := mX12_seat) (j := 6) (v := x8 + 1) (lv' := [(8, .int (x8 + 1)), (6, .long (y0 + y1)), (0, .ref 149), (1, .int x1), (2, .int x2), (3, .long x3), (5, .int x5)]) 126 rfl dX12_seat_123 rfl rfl (Nat.le_of_ble_eq_true rfl) rfl ?_
  refine E_goto (M := mX12_seat) 46 (by decide) dX12_seat_126 ?_
  refine E_sub (M := mX12_seat) (lv' := [(0, .ref 149), (1, .int x1), (2, .int x2), (3, .long x3), (5, .int x5), (6, .long (y0 + y1)), (8, .int (x8 + 1))]) [2, 3, 4, 5, 6, 1, 0] rfl ?_
  exact hk46 x1 x2 x3 x5 (y0 + y1) (x8 + 1) I L _ h
def f_X12_seat_89 (k46 : Int32 → Int32 → Int64 → Int32 → Int64 → Int32 → MI → ML → Option (Int32 × MI × ML)) (x1 : Int32) (x2 : Int32) (x3 : Int64) (x5 : Int32) (x8 : Int32) (y0 : Int64) (I : MI) (L : ML) : Option (Int32 × MI × ML) := f_X12_seat_120 k46 x1 x2 x3 x5 x8 y0 0 I L
set_option maxRecDepth 100000 in
theorem S_X12_seat_89 {g : Gx} {k46 : Int32 → Int32 → Int64 → Int32 → Int64 → Int32 → MI → ML → Option (Int32 × MI × ML)} (hk46 : ∀ (x1z : Int32) (x2z : Int32) (x3z : Int64) (x5z : Int32) (x6z : Int64) (x8z : Int32) (I : MI) (L : ML) (res : Int32 × MI × ML), k46 x1z x2z x3z x5z x6z x8z I L = some res → E g 11 0 mX12_seat 46 [(0, .ref 149), (1, .int x1z), (2, .int x2z), (3, .long x3z), (5, .int x5z), (6, .long x6z), (8, .int x8z)] [] (I, L) (.inl (some (.int res.1))) (res.2.1, res.2.2)) (x1 : Int32) (x2 : Int32) (x3 : Int64) (x5 : Int32) (x8 : Int32) (y0 : Int64) (I : MI) (L : ML) (res : Int32 × MI × ML) (h : f_X12_seat_89 k46 x1 x2 x3 x5 x8 y0 I L = some res) : E g 11 0 mX12_seat 89 [(0, .ref 149), (1, .int x1), (2, .int x2), (3, .long x3), (5, .int x5), (8, .int x8)] [.long y0] (I, L) (.inl (some (.int res.1))) (res.2.1, res.2.2) := by
  unfold f_X12_seat_89 at h
  refine E_lconst (M := mX12_seat) (v := 0) 90 rfl dX12_seat_89 (by decide) ?_
  refine E_goto (M := mX12_seat) 120 (by decide) dX12_seat_90 ?_
  refine E_sub (M := mX12_seat) (lv' := [(0, .ref 149), (1, .int x1), (2, .int x2), (3, .long x3), (5, .int x5), (8, .int x8)]) [0, 1, 2, 3, 4, 5] rfl ?_
  exact S_X12_seat_120 hk46 x1 x2 x3 x5 x8 y0 0 I L _ h
def f_X12_seat_46 (k31 : Int32 → Int32 → Int64 → Int32 → MI → ML → Option (Int32 × MI × ML)) : Nat → Int32 → Int32 → Int64 → Int32 → Int64 → Int32 → MI → ML → Option (Int32 × MI × ML)
  | 0, _, _, _, _, _, _, _, _ => none
  | n + 1, x1, x2, x3, x5, x6, x8, I, L => Option.bind (f_X12_noises I L) fun v1 => if v1 ≤ x8 then (if x2 < 0 then (f_X12_seat_143 k31 x1 x5 x6 I L) else (if x3 < x6 then (f_X12_seat_143 k31 x1 x5 x6 I L) else (f_X12_seat_149 k31 x1 x2 x3 x5 I L))) else (Option.bind (f_X12_allTitles x8 I L) fun w5 => if w5.1 = 0 then (f_X12_seat_89 (f_X12_seat_46 k31 n) x1 x2 x3 x5 x8 x6 w5.2.1 w5.2.2) else (Option.bind (f_X12_atOf x8 x5 w5.2.1 w5.2.2) fun v7 => Option.bind (f_X12_ofHeir x1 1 w5.2.1 w5.2.2) fun v8 => if v8 ≤ v7 then (Option.bind (f_X12_winterOf x8 1 w5.2.1 w5.2.2) fun v10 => Option.bind (f_X12_of x8 4 w5.2.1 w5.2.2) fun v11 => Option.bind (ldI w5.2.1 158 6 x1) fun v12 => Option.bind (dvL ((v10 * v11.toInt64) * v12.toInt64) w5.1) fun v13 => f_X12_seat_120 (f_X12_seat_46 k31 n) x1 x2 x3 x5 x8 x6 v13 w5.2.1 w5.2.2) else (f_X12_seat_89 (f_X12_seat_46 k31 n) x1 x2 x3 x5 x8 x6 w5.2.1 w5.2.2)))
set_option maxRecDepth 100000 in
theorem S_X12_seat_46 {g : Gx} {k31 : Int32 → Int32 → Int64 → Int32 → MI → ML → Option (Int32 × MI × ML)} (hk31 : ∀ (x1z : Int32) (x2z : Int32) (x3z : Int64) (x5z : Int32) (I : MI) (L : ML) (res : Int32 × MI × ML), k31 x1z x2z x3z x5z I L = some res → E g 11 0 mX12_seat 31 [(0, .ref 149), (1, .int x1z), (2, .int x2z), (3, .long x3z), (5, .int x5z)] [] (I, L) (.inl (some (.int res.1))) (res.2.1, res.2.2)) : ∀ (n : Nat) (x1 : Int32) (x2 : Int32) (x3 : Int64) (x5 : Int32) (x6 : Int64) (x8 : Int32) (I : MI) (L : ML) (res : Int32 × MI × ML), f_X12_seat_46 k31 n x1 x2 x3 x5 x6 x8 I L = some res → E g 11 0 mX12_seat 46 [(0, .ref 149), (1, .int x1), (2, .int x2), (3, .long x3), (5, .int x5), (6, .long x6), (8, .int x8)] [] (I, L) (.inl (some (.int res.1))) (res.2.1, res.2.2) := by
  intro n
  induction n with
  | zero =>
    intros
    rename_i h
    cases h
  | succ n ih =>
    intro x1 x2 x3 x5 x6 x8 I L res h
    rw [f_X12_seat_46] at h
    refine E_iload (M := mX12_seat) 48 rfl dX12_seat_46 6 rfl ?_
    refine E_aload_n (M := mX12_seat) 49 rfl dX12_seat_48 rfl 0 rfl ?_
    replace h := Option.bind_eq_some_iff.mp h
    obtain ⟨v1, hv1, h⟩ := h
    refine E_cV1 (M := mX12_seat) (As := []) 52 rfl dX12_seat_49 shc_149 ck_X12_67 cv_X12_noises rfl (by decide) (Nat.le_of_ble_eq_true rfl) (C_X12_noises (g := g) hv1) rfl ?_
    refine E_icmp_ge (M := mX12_seat) 129 55 (by decide) rfl dX12_seat_52 (fun c2 => ?_) (fun c2 => ?_)
    · rw [if_pos c2] at h
      refine E_iload_n (M := mX12_seat) 130 rfl dX12_seat_129 rfl 2 rfl ?_
      refine E_if_lt (M := mX12_seat) 143 133 (by decide) rfl dX12_seat_130 (fun c3 => ?_) (fun c3 => ?_)
      · rw [if_pos c3] at h
        refine E_sub (M := mX12_seat) (lv' := [(0, .ref 149), (1, .int x1), (5, .int x5), (6, .long x6)]) [0, 1, 4, 5] rfl ?_
        exact S_X12_seat_143 hk31 x1 x5 x6 I L _ h
      · rw [if_neg c3] at h
        refine E_lload (M := mX12_seat) 135 rfl dX12_seat_133 5 rfl ?_
        refine E_lload_n (M := mX12_seat) 136 rfl dX12_seat_135 rfl 3 rfl ?_
        refine E_lc_gt (M := mX12_seat) 143 137 140 (by decide) rfl rfl dX12_seat_136 dX12_seat_137 (fun c4 => ?_) (fun c4 => ?_)
        · rw [if_pos c4] at h
          refine E_sub (M := mX12_seat) (lv' := [(0, .ref 149), (1, .int x1), (5, .int x5), (6, .long x6)]) [0, 1, 4, 5] rfl ?_
          exact S_X12_seat_143 hk31 x1 x5 x6 I L _ h
        · rw [if_neg c4] at h
          refine E_goto (M := mX12_seat) 149 (by decide) dX12_seat_140 ?_
          refine E_sub (M := mX12_seat) (lv' := [(0, .ref 149), (1, .int x1), (2, .int x2), (3, .long x3), (5, .int x5)]) [0, 1, 2, 3, 4] rfl ?_
          exact S_X12_seat_149 hk31 x1 x2 x3 x5 I L _ h
    · rw [if_neg c2] at h
      refine E_aload_n (M := mX12_seat) 56 rfl dX12_seat_55 rfl 0 rfl ?_
      refine E_iload (M := mX12_seat) 58 rfl dX12_seat_56 6 rfl ?_
      replace h := Option.bind_eq_some_iff.mp h
      obtain ⟨w5, hw5, h⟩ := h
      refine E_cV1 (M := mX12_seat) (As := [.int x8]) 61 rfl dX12_seat_58 shc_149 ck_X12_285 cv_X12_allTitles rfl (by decide) (Nat.le_of_ble_eq_true rfl) (C_X12_allTitles (g := g) hw5) rfl ?_
      refine E_lstore (M := mX12_seat) (lv' := [(9, .long w5.1), (0, .ref 149), (1, .int x1), (2, .int x2), (3, .long x3), (5, .int x5), (6, .long x6), (8, .int x8)]) 63 rfl dX12_seat_61 (Nat.le_of_ble_eq_true rfl) rfl ?_
      refine E_lload (M := mX12_seat) 65 rfl dX12_seat_63 6 rfl ?_
      refine E_lload (M := mX12_seat) 67 rfl dX12_seat_65 0 rfl ?_
      refine E_lconst (M := mX12_seat) (v := 0) 68 rfl dX12_seat_67 (by decide) ?_
      refine E_lc_eq (M := mX12_seat) 89 69 72 (by decide) rfl rfl dX12_seat_68 dX12_seat_69 (fun c6 => ?_) (fun c6 => ?_)
      · rw [if_pos c6] at h
        refine E_sub (M := mX12_seat) (lv' := [(0, .ref 149), (1, .int x1), (2, .int x2), (3, .long x3), (5, .int x5), (8, .int x8)]) [1, 2, 3, 4, 5, 7] rfl ?_
        exact S_X12_seat_89 ih x1 x2 x3 x5 x8 x6 w5.2.1 w5.2.2 _ h
      · rw [if_neg c6] at h
        refine E_aload_n (M := mX12_seat) 73 rfl dX12_seat_72 rfl 1 rfl ?_
        refine E_iload (M := mX12_seat) 75 rfl dX12_seat_73 7 rfl ?_
        refine E_iload (M := mX12_seat) 77 rfl dX12_seat_75 5 rfl ?_
        replace h := Option.bind_eq_some_iff.mp h
        obtain ⟨v7, hv7, h⟩ := h
        refine E_cV1 (M := mX12_seat) (As := [.int x8, .int x5]) 80 rfl dX12_seat_77 shc_149 ck_X12_269 cv_X12_atOf rfl (by decide) (Nat.le_of_ble_eq_true rfl) (C_X12_atOf (g := g) hv7) rfl ?_
        refine E_aload_n (M := mX12_seat) 81 rfl dX12_seat_80 rfl 1 rfl ?_
        refine E_iload_n (M := mX12_seat) 82 rfl dX12_seat_81 rfl 2 rfl ?_
        refine E_iconst (M := mX12_seat) (v := 1) 83 rfl dX12_seat_82 (by decide) ?_
        replace h := Option.bind_eq_some_iff.mp h
        obtain ⟨v8, hv8, h⟩ := h
        refine E_cV1 (M := mX12_seat) (As := [.int x1, .int 1]) 86 rfl dX12_seat_83 shc_149 ck_X12_266 cv_X12_ofHeir rfl (by decide) (Nat.le_of_ble_eq_true rfl) (C_X12_ofHeir (g := g) hv8) rfl ?_
        refine E_icmp_ge (M := mX12_seat) 93 89 (by decide) rfl dX12_seat_86 (fun c9 => ?_) (fun c9 => ?_)
        · rw [if_pos c9] at h
          refine E_aload_n (M := mX12_seat) 94 rfl dX12_seat_93 rfl 1 rfl ?_
          refine E_iload (M := mX12_seat) 96 rfl dX12_seat_94 7 rfl ?_
          refine E_iconst (M := mX12_seat) (v := 1) 97 rfl dX12_seat_96 (by decide) ?_
          replace h := Option.bind_eq_some_iff.mp h
          obtain ⟨v10, hv10, h⟩ := h
          refine E_cV1 (M := mX12_seat) (As := [.int x8, .int 1]) 100 rfl dX12_seat_97 shc_149 ck_X12_344 cv_X12_winterOf rfl (by decide) (Nat.le_of_ble_eq_true rfl) (C_X12_winterOf (g := g) hv10) rfl ?_
          refine E_aload_n (M := mX12_seat) 101 rfl dX12_seat_100 rfl 1 rfl ?_
          refine E_iload (M := mX12_seat) 103 rfl dX12_seat_101 7 rfl ?_
          refine E_iconst (M := mX12_seat) (v := 4) 104 rfl dX12_seat_103 (by decide) ?_
          replace h := Option.bind_eq_some_iff.mp h
          obtain ⟨v11, hv11, h⟩ := h
          refine E_cV1 (M := mX12_seat) (As := [.int x8, .int 4]) 107 rfl dX12_seat_104 shc_149 ck_X12_260 cv_X12_of rfl (by decide) (Nat.le_of_ble_eq_true rfl) (C_X12_of (g := g) hv11) rfl ?_
          refine E_i2l (M := mX12_seat) 108 rfl dX12_seat_107 ?_
          refine E_lmul (M := mX12_seat) 109 rfl dX12_seat_108 ?_
          refine E_aload_n (M := mX12_seat) 110 rfl dX12_seat_109 rfl 1 rfl ?_
          refine E_gR (M := mX12_seat) 158 113 rfl dX12_seat_110 shc_149 fl_X12_42 rfl (by decide) (by decide) ?_
          refine E_iload_n (M := mX12_seat) 114 rfl dX12_seat_113 rfl 2 rfl ?_
          replace h := Option.bind_eq_some_iff.mp h
          obtain ⟨v12, hv12, h⟩ := h
          refine E_ldI (M := mX12_seat) 115 rfl dX12_seat_114 shc_158 hv12 ?_
          refine E_i2l (M := mX12_seat) 116 rfl dX12_seat_115 ?_
          refine E_lmul (M := mX12_seat) 117 rfl dX12_seat_116 ?_
          refine E_lload (M := mX12_seat) 119 rfl dX12_seat_117 0 rfl ?_
          replace h := Option.bind_eq_some_iff.mp h
          obtain ⟨v13, hv13, h⟩ := h
          refine E_dvL (M := mX12_seat) 120 rfl dX12_seat_119 hv13 ?_
          refine E_sub (M := mX12_seat) (lv' := [(0, .ref 149), (1, .int x1), (2, .int x2), (3, .long x3), (5, .int x5), (8, .int x8)]) [1, 2, 3, 4, 5, 7] rfl ?_
          exact S_X12_seat_120 ih x1 x2 x3 x5 x8 x6 v13 w5.2.1 w5.2.2 _ h
        · rw [if_neg c9] at h
          refine E_sub (M := mX12_seat) (lv' := [(0, .ref 149), (1, .int x1), (2, .int x2), (3, .long x3), (5, .int x5), (8, .int x8)]) [1, 2, 3, 4, 5, 7] rfl ?_
          exact S_X12_seat_89 ih x1 x2 x3 x5 x8 x6 w5.2.1 w5.2.2 _ h
def f_X12_seat_31 : Nat → Int32 → Int32 → Int64 → Int32 → MI → ML → Option (Int32 × MI × ML)
  | 0, _, _, _, _, _, _ => none
  | n + 1, x1, x2, x3, x5, I, L => Option.bind (f_X12_rooms I L) fun v1 => if v1 ≤ x5 then (some (x2, I, L)) else (f_X12_seat_46 (f_X12_seat_31 n) FU x1 x2 x3 x5 0 0 I L)
set_option maxRecDepth 100000 in
theorem S_X12_seat_31 {g : Gx} : ∀ (n : Nat) (x1 : Int32) (x2 : Int32) (x3 : Int64) (x5 : Int32) (I : MI) (L : ML) (res : Int32 × MI × ML), f_X12_seat_31 n x1 x2 x3 x5 I L = some res → E g 11 0 mX12_seat 31 [(0, .ref 149), (1, .int x1), (2, .int x2), (3, .long x3), (5, .int x5)] [] (I, L) (.inl (some (.int res.1))) (res.2.1, res.2.2) := by
  intro n
  induction n with
  | zero =>
    intros
    rename_i h
    cases h
  | succ n ih =>
    intro x1 x2 x3 x5 I L res h
    rw [f_X12_seat_31] at h
    refine E_iload (M := mX12_seat) 33 rfl dX12_seat_31 4 rfl ?_
    refine E_aload_n (M := mX12_seat) 34 rfl dX12_seat_33 rfl 0 rfl ?_
    replace h := Option.bind_eq_some_iff.mp h
    obtain ⟨v1, hv1, h⟩ := h
    refine E_cV1 (M := mX12_seat) (As := []) 37 rfl dX12_seat_34 shc_149 ck_X12_56 cv_X12_rooms rfl (by decide) (Nat.le_of_ble_eq_true rfl) (C_X12_rooms (g := g) hv1) rfl ?_
    refine E_icmp_ge (M := mX12_seat) 155 40 (by decide) rfl dX12_seat_37 (fun c2 => ?_) (fun c2 => ?_)
    · rw [if_pos c2] at h
      refine E_iload_n (M := mX12_seat) 156 rfl dX12_seat_155 rfl 2 rfl ?_
      cases h
      exact E_iret (M := mX12_seat) rfl dX12_seat_156
    · rw [if_neg c2] at h
      refine E_lconst (M := mX12_seat) (v := 0) 41 rfl dX12_seat_40 (by decide) ?_
      refine E_lstore (M := mX12_seat) (lv' := [(6, .long 0), (0, .ref 149), (1, .int x1), (2, .int x2), (3, .long x3), (5, .int x5)]) 43 rfl dX12_seat_41 (Nat.le_of_ble_eq_true rfl) rfl ?_
      refine E_iconst (M := mX12_seat) (v := 0) 44 rfl dX12_seat_43 (by decide) ?_
      refine E_istore (M := mX12_seat) (lv' := [(8, .int 0), (6, .long 0), (0, .ref 149), (1, .int x1), (2, .int x2), (3, .long x3), (5, .int x5)]) 46 rfl dX12_seat_44 (Nat.le_of_ble_eq_true rfl) rfl ?_
      refine E_sub (M := mX12_seat) (lv' := [(0, .ref 149), (1, .int x1), (2, .int x2), (3, .long x3), (5, .int x5), (6, .long 0), (8, .int 0)]) [2, 3, 4, 5, 6, 1, 0] rfl ?_
      exact S_X12_seat_46 ih FU x1 x2 x3 x5 0 0 I L _ h
def f_X12_seat (x1 : Int32) (I : MI) (L : ML) : Option (Int32 × MI × ML) := Option.bind (pfI I 149 0 0) fun I1 => Option.bind (f_X12_noHeir x1 I1 L) fun v2 => Option.bind (f_X12_throwsIf v2 1 I1 L) fun w3 => if w3.1 = true then (some (0, w3.2.1, w3.2.2)) else (Option.bind (f_X12_spreads w3.2.1 w3.2.2) fun w5 => f_X12_seat_31 FU x1 ((-1)) 0 0 w5.1 w5.2)
set_option maxRecDepth 100000 in
theorem S_X12_seat {g : Gx} (x1 : Int32) (I : MI) (L : ML) (res : Int32 × MI × ML) (h : f_X12_seat x1 I L = some res) : E g 11 0 mX12_seat 0 [(0, .ref 149), (1, .int x1)] [] (I, L) (.inl (some (.int res.1))) (res.2.1, res.2.2) := by
  unfold f_X12_seat at h
  refine E_aload_n (M := mX12_seat) 1 rfl dX12_seat_0 rfl 0 rfl ?_
  refine E_iconst (M := mX12_seat) (v := 0) 2 rfl dX12_seat_1 (by decide) ?_
  replace h := Option.bind_eq_some_iff.mp h
  obtain ⟨I1, hI1, h⟩ := h
  refine E_pfI (M := mX12_seat) 5 rfl dX12_seat_2 shc_149 fl_X12_3 rfl hI1 ?_
  refine E_aload_n (M := mX12_seat) 6 rfl dX12_seat_5 rfl 0 rfl ?_
  refine E_aload_n (M := mX12_seat) 7 rfl dX12_seat_6 rfl 0 rfl ?_
  refine E_iload_n (M := mX12_seat) 8 rfl dX12_seat_7 rfl 1 rfl ?_
  replace h := Option.bind_eq_some_iff.mp h
  obtain ⟨v2, hv2, h⟩ := h
  refine E_cV1 (M := mX12_seat) (As := [.int x1]) 11 rfl dX12_seat_8 shc_149 ck_X12_301 cv_X12_noHeir rfl (by decide) (Nat.le_of_ble_eq_true rfl) (C_X12_noHeir (g := g) hv2) rfl ?_
  refine E_iconst (M := mX12_seat) (v := 1) 12 rfl dX12_seat_11 (by decide) ?_
  replace h := Option.bind_eq_some_iff.mp h
  obtain ⟨w3, hw3, h⟩ := h
  refine E_cV1 (M := mX12_seat) (As := [.int (bI v2), .int 1]) 15 rfl dX12_seat_12 shc_149 ck_X12_245 cv_X12_throwsIf rfl (by decide) (Nat.le_of_ble_eq_true rfl) (C_X12_throwsIf (g := g) hw3) rfl ?_
  refine E_if_eqB (M := mX12_seat) 20 18 (by decide) rfl dX12_seat_15 (fun c4 => ?_) (fun c4 => ?_)
  · rw [if_neg (by rw [c4]; decide)] at h
    refine E_aload_n (M := mX12_seat) 21 rfl dX12_seat_20 rfl 0 rfl ?_
    replace h := Option.bind_eq_some_iff.mp h
    obtain ⟨w5, hw5, h⟩ := h
    refine E_cV0 (M := mX12_seat) (As := []) 24 rfl dX12_seat_21 shc_149 ck_X12_298 cv_X12_spreads rfl (by decide) (Nat.le_of_ble_eq_true rfl) (C_X12_spreads (g := g) hw5) rfl ?_
    refine E_iconst (M := mX12_seat) (v := (-1)) 25 rfl dX12_seat_24 (by decide) ?_
    refine E_istore_n (M := mX12_seat) (lv' := [(2, .int ((-1))), (0, .ref 149), (1, .int x1)]) 26 rfl dX12_seat_25 rfl (Nat.le_of_ble_eq_true rfl) rfl ?_
    refine E_lconst (M := mX12_seat) (v := 0) 27 rfl dX12_seat_26 (by decide) ?_
    refine E_lstore_n (M := mX12_seat) (lv' := [(3, .long 0), (2, .int ((-1))), (0, .ref 149), (1, .int x1)]) 28 rfl dX12_seat_27 rfl (Nat.le_of_ble_eq_true rfl) rfl ?_
    refine E_iconst (M := mX12_seat) (v := 0) 29 rfl dX12_seat_28 (by decide) ?_
    refine E_istore (M := mX12_seat) (lv' := [(5, .int 0), (3, .long 0), (2, .int ((-1))), (0, .ref 149), (1, .int x1)]) 31 rfl dX12_seat_29 (Nat.le_of_ble_eq_true rfl) rfl ?_
    refine E_sub (M := mX12_seat) (lv' := [(0, .ref 149), (1, .int x1), (2, .int ((-1))), (3, .long 0), (5, .int 0)]) [3, 4, 2, 1, 0] rfl ?_
    exact S_X12_seat_31 FU x1 ((-1)) 0 0 w5.1 w5.2 _ h
  · rw [if_pos c4] at h
    refine E_iconst (M := mX12_seat) (v := 0) 19 rfl dX12_seat_18 (by decide) ?_
    cases h
    exact E_iret (M := mX12_seat) rfl dX12_seat_19
theorem C_X12_seat {g : Gx} {x1 : Int32} {I : MI} {L : ML} {res : Int32 × MI × ML} (h : f_X12_seat x1 I L = some res) : Ent g 11 0 mX12_seat [.ref 149, .int x1] (I, L) (.inl (some (.int res.1))) (res.2.1, res.2.2) := Ent_of (by decide +kernel) (Nat.le_of_ble_eq_true rfl) (S_X12_seat x1 I L _ h)
def f_X12_valueOf_5 : Nat → Int32 → Int64 → Int32 → MI → ML → Option (Int64 × MI × ML)
  | 0, _, _, _, _, _ => none
  | n + 1, x1, x2, x4, I, L => Option.bind (f_X12_noises I L) fun v1 => if v1 ≤ x4 then (some (x2, I, L)) else (Option.bind (f_X12_dueOf x4 100 I L) fun v3 => Option.bind (f_X12_parts x4 v3 I L) fun w4 => Option.bind (ldL w4.2.2 159 6 x1) fun v5 => f_X12_valueOf_5 n x1 (x2 + v5) (x4 + 1) w4.2.1 w4.2.2)
set_option maxRecDepth 100000 in
theorem S_X12_valueOf_5 {g : Gx} : ∀ (n : Nat) (x1 : Int32) (x2 : Int64) (x4 : Int32) (I : MI) (L : ML) (res : Int64 × MI × ML), f_X12_valueOf_5 n x1 x2 x4 I L = some res → E g 12 0 mX12_valueOf 5 [(0, .ref 149), (1, .int x1), (2, .long x2), (4, .int x4)] [] (I, L) (.inl (some (.long res.1))) (res.2.1, res.2.2) := by
  intro n
  induction n with
  | zero =>
    intros
    rename_i h
    cases h
  | succ n ih =>
    intro x1 x2 x4 I L res h
    rw [f_X12_valueOf_5] at h
    refine E_iload (M := mX12_valueOf) 7 rfl dX12_valueOf_5 3 rfl ?_
    refine E_aload_n (M := mX12_valueOf) 8 rfl dX12_valueOf_7 rfl 0 rfl ?_
    replace h := Option.bind_eq_some_iff.mp h
    obtain ⟨v1, hv1, h⟩ := h
    refine E_cV1 (M := mX12_valueOf) (As := []) 11 rfl dX12_valueOf_8 shc_149 ck_X12_67 cv_X12_noises rfl (by decide) (Nat.le_of_ble_eq_true rfl) (C_X12_noises (g := g) hv1) rfl ?_
    refine E_icmp_ge (M := mX12_valueOf) 44 14 (by decide) rfl dX12_valueOf_11 (fun c2 => ?_) (fun c2 => ?_)
    · rw [if_pos c2] at h
      refine E_lload_n (M := mX12_valueOf) 45 rfl dX12_valueOf_44 rfl 2 rfl ?_
      cases h
      exact E_lret (M := mX12_valueOf) rfl dX12_valueOf_45
    · rw [if_neg c2] at h
      refine E_aload_n (M := mX12_valueOf) 15 rfl dX12_valueOf_14 rfl 0 rfl ?_
      refine E_iload (M := mX12_valueOf) 17 rfl dX12_valueOf_15 3 rfl ?_
      refine E_aload_n (M := mX12_valueOf) 18 rfl dX12_valueOf_17 rfl 0 rfl ?_
      refine E_iload (M := mX12_valueOf) 20 rfl dX12_valueOf_18 3 rfl ?_
      refine E_bipush (M := mX12_valueOf) (v := 100) 22 rfl dX12_valueOf_20 (by decide) ?_
      replace h := Option.bind_eq_some_iff.mp h
      obtain ⟨v3, hv3, h⟩ := h
      refine E_cV1 (M := mX12_valueOf) (As := [.int x4, .int 100]) 25 rfl dX12_valueOf_22 shc_149 ck_X12_351 cv_X12_dueOf rfl (by decide) (Nat.le_of_ble_eq_true rfl) (C_X12_dueOf (g := g) hv3) rfl ?_
      replace h := Option.bind_eq_some_iff.mp h
      obtain ⟨w4, hw4, h⟩ := h
      refine E_cV1 (M := mX12_valueOf) (As := [.int x4, .long v3]) 28 rfl dX12_valueOf_25 shc_149 ck_X12_308 cv_X12_parts rfl (by decide) (Nat.le_of_ble_eq_true rfl) (C_X12_parts (g := g) hw4) rfl ?_
      refine E_pop2 (M := mX12_valueOf) 29 rfl dX12_valueOf_28 rfl ?_
      refine E_lload_n (M := mX12_valueOf) 30 rfl dX12_valueOf_29 rfl 2 rfl ?_
      refine E_aload_n (M := mX12_valueOf) 31 rfl dX12_valueOf_30 rfl 0 rfl ?_
      refine E_gR (M := mX12_valueOf) 159 34 rfl dX12_valueOf_31 shc_149 fl_X12_45 rfl (by decide) (by decide) ?_
      refine E_iload_n (M := mX12_valueOf) 35 rfl dX12_valueOf_34 rfl 1 rfl ?_
      replace h := Option.bind_eq_some_iff.mp h
      obtain ⟨v5, hv5, h⟩ := h
      refine E_ldL (M := mX12_valueOf) 36 rfl dX12_valueOf_35 shc_159 hv5 ?_
      refine E_ladd (M := mX12_valueOf) 37 rfl dX12_valueOf_36 ?_
      refine E_lstore_n (M := mX12_valueOf) (lv' := [(2, .long (x2 + v5)), (0, .ref 149), (1, .int x1), (4, .int x4)]) 38 rfl dX12_valueOf_37 rfl (Nat.le_of_ble_eq_true rfl) rfl ?_
      refine E_iinc (M := mX12_valueOf) (j := 3) (v := x4 + 1) (lv' := [(4, .int (x4 + 1)), (2, .long (x2 + v5)), (0, .ref 149), (1, .int x1)]) 41 rfl dX12_valueOf_38 rfl rfl (Nat.le_of_ble_eq_true rfl) rfl ?_
      refine E_goto (M := mX12_valueOf) 5 (by decide) dX12_valueOf_41 ?_
      refine E_sub (M := mX12_valueOf) (lv' := [(0, .ref 149), (1, .int x1), (2, .long (x2 + v5)), (4, .int (x4 + 1))]) [2, 3, 1, 0] rfl ?_
      exact ih x1 (x2 + v5) (x4 + 1) w4.2.1 w4.2.2 _ h
def f_X12_valueOf (x1 : Int32) (I : MI) (L : ML) : Option (Int64 × MI × ML) := f_X12_valueOf_5 FU x1 0 0 I L
set_option maxRecDepth 100000 in
theorem S_X12_valueOf {g : Gx} (x1 : Int32) (I : MI) (L : ML) (res : Int64 × MI × ML) (h : f_X12_valueOf x1 I L = some res) : E g 12 0 mX12_valueOf 0 [(0, .ref 149), (1, .int x1)] [] (I, L) (.inl (some (.long res.1))) (res.2.1, res.2.2) := by
  unfold f_X12_valueOf at h
  refine E_lconst (M := mX12_valueOf) (v := 0) 1 rfl dX12_valueOf_0 (by decide) ?_
  refine E_lstore_n (M := mX12_valueOf) (lv' := [(2, .long 0), (0, .ref 149), (1, .int x1)]) 2 rfl dX12_valueOf_1 rfl (Nat.le_of_ble_eq_true rfl) rfl ?_
  refine E_iconst (M := mX12_valueOf) (v := 0) 3 rfl dX12_valueOf_2 (by decide) ?_
  refine E_istore (M := mX12_valueOf) (lv' := [(4, .int 0), (2, .long 0), (0, .ref 149), (1, .int x1)]) 5 rfl dX12_valueOf_3 (Nat.le_of_ble_eq_true rfl) rfl ?_
  refine E_sub (M := mX12_valueOf) (lv' := [(0, .ref 149), (1, .int x1), (2, .long 0), (4, .int 0)]) [2, 3, 1, 0] rfl ?_
  exact S_X12_valueOf_5 FU x1 0 0 I L _ h
theorem C_X12_valueOf {g : Gx} {x1 : Int32} {I : MI} {L : ML} {res : Int64 × MI × ML} (h : f_X12_valueOf x1 I L = some res) : Ent g 12 0 mX12_valueOf [.ref 149, .int x1] (I, L) (.inl (some (.long res.1))) (res.2.1, res.2.2) := Ent_of (by decide +kernel) (Nat.le_of_ble_eq_true rfl) (S_X12_valueOf x1 I L _ h)
def f_X12_value (x1 : Int32) (I : MI) (L : ML) : Option (Int64 × MI × ML) := Option.bind (pfI I 149 0 0) fun I1 => Option.bind (f_X12_noHeir x1 I1 L) fun v2 => Option.bind (f_X12_throwsIf v2 1 I1 L) fun w3 => if w3.1 = true then (some (0, w3.2.1, w3.2.2)) else (Option.bind (f_X12_spreads w3.2.1 w3.2.2) fun w5 => Option.bind (f_X12_valueOf x1 w5.1 w5.2) fun w6 => some (w6.1, w6.2.1, w6.2.2))
set_option maxRecDepth 100000 in
theorem S_X12_value {g : Gx} (x1 : Int32) (I : MI) (L : ML) (res : Int64 × MI × ML) (h : f_X12_value x1 I L = some res) : E g 13 0 mX12_value 0 [(0, .ref 149), (1, .int x1)] [] (I, L) (.inl (some (.long res.1))) (res.2.1, res.2.2) := by
  unfold f_X12_value at h
  refine E_aload_n (M := mX12_value) 1 rfl dX12_value_0 rfl 0 rfl ?_
  refine E_iconst (M := mX12_value) (v := 0) 2 rfl dX12_value_1 (by decide) ?_
  replace h := Option.bind_eq_some_iff.mp h
  obtain ⟨I1, hI1, h⟩ := h
  refine E_pfI (M := mX12_value) 5 rfl dX12_value_2 shc_149 fl_X12_3 rfl hI1 ?_
  refine E_aload_n (M := mX12_value) 6 rfl dX12_value_5 rfl 0 rfl ?_
  refine E_aload_n (M := mX12_value) 7 rfl dX12_value_6 rfl 0 rfl ?_
  refine E_iload_n (M := mX12_value) 8 rfl dX12_value_7 rfl 1 rfl ?_
  replace h := Option.bind_eq_some_iff.mp h
  obtain ⟨v2, hv2, h⟩ := h
  refine E_cV1 (M := mX12_value) (As := [.int x1]) 11 rfl dX12_value_8 shc_149 ck_X12_301 cv_X12_noHeir rfl (by decide) (Nat.le_of_ble_eq_true rfl) (C_X12_noHeir (g := g) hv2) rfl ?_
  refine E_iconst (M := mX12_value) (v := 1) 12 rfl dX12_value_11 (by decide) ?_
  replace h := Option.bind_eq_some_iff.mp h
  obtain ⟨w3, hw3, h⟩ := h
  refine E_cV1 (M := mX12_value) (As := [.int (bI v2), .int 1]) 15 rfl dX12_value_12 shc_149 ck_X12_245 cv_X12_throwsIf rfl (by decide) (Nat.le_of_ble_eq_true rfl) (C_X12_throwsIf (g := g) hw3) rfl ?_
  refine E_if_eqB (M := mX12_value) 20 18 (by decide) rfl dX12_value_15 (fun c4 => ?_) (fun c4 => ?_)
  · rw [if_neg (by rw [c4]; decide)] at h
    refine E_aload_n (M := mX12_value) 21 rfl dX12_value_20 rfl 0 rfl ?_
    replace h := Option.bind_eq_some_iff.mp h
    obtain ⟨w5, hw5, h⟩ := h
    refine E_cV0 (M := mX12_value) (As := []) 24 rfl dX12_value_21 shc_149 ck_X12_298 cv_X12_spreads rfl (by decide) (Nat.le_of_ble_eq_true rfl) (C_X12_spreads (g := g) hw5) rfl ?_
    refine E_aload_n (M := mX12_value) 25 rfl dX12_value_24 rfl 0 rfl ?_
    refine E_iload_n (M := mX12_value) 26 rfl dX12_value_25 rfl 1 rfl ?_
    replace h := Option.bind_eq_some_iff.mp h
    obtain ⟨w6, hw6, h⟩ := h
    refine E_cV1 (M := mX12_value) (As := [.int x1]) 29 rfl dX12_value_26 shc_149 ck_X12_370 cv_X12_valueOf rfl (by decide) (Nat.le_of_ble_eq_true rfl) (C_X12_valueOf (g := g) hw6) rfl ?_
    cases h
    exact E_lret (M := mX12_value) rfl dX12_value_29
  · rw [if_pos c4] at h
    refine E_lconst (M := mX12_value) (v := 0) 19 rfl dX12_value_18 (by decide) ?_
    cases h
    exact E_lret (M := mX12_value) rfl dX12_value_19
theorem C_X12_value {g : Gx} {x1 : Int32} {I : MI} {L : ML} {res : Int64 × MI × ML} (h : f_X12_value x1 I L = some res) : Ent g 13 0 mX12_value [.ref 149, .int x1] (I, L) (.inl (some (.long res.1))) (res.2.1, res.2.2) := Ent_of (by decide +kernel) (Nat.le_of_ble_eq_true rfl) (S_X12_value x1 I L _ h)
def f_X12_sale_86 (y0 : Int64) (I : MI) (L : ML) : Option (Int64 × MI × ML) := some (y0, I, L)
set_option maxRecDepth 100000 in
theorem S_X12_sale_86 {g : Gx} (y0 : Int64) (I : MI) (L : ML) (res : Int64 × MI × ML) (h : f_X12_sale_86 y0 I L = some res) : E g 13 0 mX12_sale 86 [] [.long y0] (I, L) (.inl (some (.long res.1))) (res.2.1, res.2.2) := by
  unfold f_X12_sale_86 at h
  cases h
  exact E_lret (M := mX12_sale) rfl dX12_sale_86
def f_X12_sale_77 (x2 : Int32) (I : MI) (L : ML) : Option (Int64 × MI × ML) := f_X12_sale_86 x2.toInt64 I L
set_option maxRecDepth 100000 in
theorem S_X12_sale_77 {g : Gx} (x2 : Int32) (I : MI) (L : ML) (res : Int64 × MI × ML) (h : f_X12_sale_77 x2 I L = some res) : E g 13 0 mX12_sale 77 [(2, .int x2)] [] (I, L) (.inl (some (.long res.1))) (res.2.1, res.2.2) := by
  unfold f_X12_sale_77 at h
  refine E_iload_n (M := mX12_sale) 78 rfl dX12_sale_77 rfl 0 rfl ?_
  refine E_i2l (M := mX12_sale) 79 rfl dX12_sale_78 ?_
  refine E_goto (M := mX12_sale) 86 (by decide) dX12_sale_79 ?_
  refine E_sub (M := mX12_sale) (lv' := []) [] rfl ?_
  exact S_X12_sale_86 x2.toInt64 I L _ h
def f_X12_sale_63 (k19 : Bool → Int32 → Int64 → Int64 → Int32 → MI → ML → Option (Int64 × MI × ML)) (x1 : Bool) (x2 : Int32) (x3 : Int64) (x5 : Int64) (x7 : Int32) (I : MI) (L : ML) : Option (Int64 × MI × ML) := k19 x1 x2 x3 x5 (x7 + 1) I L
set_option maxRecDepth 100000 in
theorem S_X12_sale_63 {g : Gx} {k19 : Bool → Int32 → Int64 → Int64 → Int32 → MI → ML → Option (Int64 × MI × ML)} (hk19 : ∀ (x1z : Bool) (x2z : Int32) (x3z : Int64) (x5z : Int64) (x7z : Int32) (I : MI) (L : ML) (res : Int64 × MI × ML), k19 x1z x2z x3z x5z x7z I L = some res → E g 13 0 mX12_sale 19 [(0, .ref 149), (1, .int (bI x1z)), (2, .int x2z), (3, .long x3z), (5, .long x5z), (7, .int x7z)] [] (I, L) (.inl (some (.long res.1))) (res.2.1, res.2.2)) (x1 : Bool) (x2 : Int32) (x3 : Int64) (x5 : Int64) (x7 : Int32) (I : MI) (L : ML) (res : Int64 × MI × ML) (h : f_X12_sale_63 k19 x1 x2 x3 x5 x7 I L = some res) : E g 13 0 mX12_sale 63 [(0, .ref 149), (1, .int (bI x1)), (2, .int x2), (3, .long x3), (5, .long x5), (7, .int x7)] [] (I, L) (.inl (some (.long res.1))) (res.2.1, res.2.2) := by
  unfold f_X12_sale_63 at h
  refine E_iinc (M := mX12_sale) (j := 5) (v := x7 + 1) (lv' := [(7, .int (x7 + 1)), (0, .ref 149), (1, .int (bI x1)), (2, .int x2), (3, .long x3), (5, .long x5)]) 66 rfl dX12_sale_63 rfl rfl (Nat.le_of_ble_eq_true rfl) rfl ?_
  refine E_goto (M := mX12_sale) 19 (by decide) dX12_sale_66 ?_
  refine E_sub (M := mX12_sale) (lv' := [(0, .ref 149), (1, .int (bI x1)), (2, .int x2), (3, .long x3), (5, .long x5), (7, .int (x7 + 1))]) [1, 2, 3, 4, 5, 0] rfl ?_
  exact hk19 x1 x2 x3 x5 (x7 + 1) I L _ h
def f_X12_sale_57 (k19 : Bool → Int32 → Int64 → Int64 → Int32 → MI → ML → Option (Int64 × MI × ML)) (x1 : Bool) (x5 : Int64) (x7 : Int32) (x8 : Int64) (I : MI) (L : ML) : Option (Int64 × MI × ML) := f_X12_sale_63 k19 x1 x7 x8 x5 x7 I L
set_option maxRecDepth 100000 in
theorem S_X12_sale_57 {g : Gx} {k19 : Bool → Int32 → Int64 → Int64 → Int32 → MI → ML → Option (Int64 × MI × ML)} (hk19 : ∀ (x1z : Bool) (x2z : Int32) (x3z : Int64) (x5z : Int64) (x7z : Int32) (I : MI) (L : ML) (res : Int64 × MI × ML), k19 x1z x2z x3z x5z x7z I L = some res → E g 13 0 mX12_sale 19 [(0, .ref 149), (1, .int (bI x1z)), (2, .int x2z), (3, .long x3z), (5, .long x5z), (7, .int x7z)] [] (I, L) (.inl (some (.long res.1))) (res.2.1, res.2.2)) (x1 : Bool) (x5 : Int64) (x7 : Int32) (x8 : Int64) (I : MI) (L : ML) (res : Int64 × MI × ML) (h : f_X12_sale_57 k19 x1 x5 x7 x8 I L = some res) : E g 13 0 mX12_sale 57 [(0, .ref 149), (1, .int (bI x1)), (5, .long x5), (7, .int x7), (8, .long x8)] [] (I, L) (.inl (some (.long res.1))) (res.2.1, res.2.2) := by
  unfold f_X12_sale_57 at h
  refine E_iload (M := mX12_sale) 59 rfl dX12_sale_57 3 rfl ?_
  refine E_istore_n (M := mX12_sale) (lv' := [(2, .int x7), (0, .ref 149), (1, .int (bI x1)), (5, .long x5), (7, .int x7), (8, .long x8)]) 60 rfl dX12_sale_59 rfl (Nat.le_of_ble_eq_true rfl) rfl ?_
  refine E_lload (M := mX12_sale) 62 rfl dX12_sale_60 5 rfl ?_
  refine E_lstore_n (M := mX12_sale) (lv' := [(3, .long x8), (2, .int x7), (0, .ref 149), (1, .int (bI x1)), (5, .long x5), (7, .int x7), (8, .long x8)]) 63 rfl dX12_sale_62 rfl (Nat.le_of_ble_eq_true rfl) rfl ?_
  refine E_sub (M := mX12_sale) (lv' := [(0, .ref 149), (1, .int (bI x1)), (2, .int x7), (3, .long x8), (5, .long x5), (7, .int x7)]) [2, 3, 1, 0, 4, 5] rfl ?_
  exact S_X12_sale_63 hk19 x1 x7 x8 x5 x7 I L _ h
def f_X12_sale_19 : Nat → Bool → Int32 → Int64 → Int64 → Int32 → MI → ML → Option (Int64 × MI × ML)
  | 0, _, _, _, _, _, _, _ => none
  | n + 1, x1, x2, x3, x5, x7, I, L => Option.bind (f_X12_heirs I L) fun v1 => if v1 ≤ x7 then (if x2 < 0 then (f_X12_sale_77 x2 I L) else (if x1 = true then (f_X12_sale_86 (x5 - x3) I L) else (f_X12_sale_77 x2 I L))) else (Option.bind (f_X12_valueOf x7 I L) fun w5 => if x2 < 0 then (f_X12_sale_57 (f_X12_sale_19 n) x1 (x5 + w5.1) x7 w5.1 w5.2.1 w5.2.2) else (if x3 < w5.1 then (f_X12_sale_57 (f_X12_sale_19 n) x1 (x5 + w5.1) x7 w5.1 w5.2.1 w5.2.2) else (f_X12_sale_63 (f_X12_sale_19 n) x1 x2 x3 (x5 + w5.1) x7 w5.2.1 w5.2.2)))
set_option maxRecDepth 100000 in
theorem S_X12_sale_19 {g : Gx} : ∀ (n : Nat) (x1 : Bool) (x2 : Int32) (x3 : Int64) (x5 : Int64) (x7 : Int32) (I : MI) (L : ML) (res : Int64 × MI × ML), f_X12_sale_19 n x1 x2 x3 x5 x7 I L = some res → E g 13 0 mX12_sale 19 [(0, .ref 149), (1, .int (bI x1)), (2, .int x2), (3, .long x3), (5, .long x5), (7, .int x7)] [] (I, L) (.inl (some (.long res.1))) (res.2.1, res.2.2) := by
  intro n
  induction n with
  | zero =>
    intros
    rename_i h
    cases h
  | succ n ih =>
    intro x1 x2 x3 x5 x7 I L res h
    rw [f_X12_sale_19] at h
    refine E_iload (M := mX12_sale) 21 rfl dX12_sale_19 5 rfl ?_
    refine E_aload_n (M := mX12_sale) 22 rfl dX12_sale_21 rfl 0 rfl ?_
    replace h := Option.bind_eq_some_iff.mp h
    obtain ⟨v1, hv1, h⟩ := h
    refine E_cV1 (M := mX12_sale) (As := []) 25 rfl dX12_sale_22 shc_149 ck_X12_64 cv_X12_heirs rfl (by decide) (Nat.le_of_ble_eq_true rfl) (C_X12_heirs (g := g) hv1) rfl ?_
    refine E_icmp_ge (M := mX12_sale) 69 28 (by decide) rfl dX12_sale_25 (fun c2 => ?_) (fun c2 => ?_)
    · rw [if_pos c2] at h
      refine E_iload_n (M := mX12_sale) 70 rfl dX12_sale_69 rfl 2 rfl ?_
      refine E_if_lt (M := mX12_sale) 77 73 (by decide) rfl dX12_sale_70 (fun c3 => ?_) (fun c3 => ?_)
      · rw [if_pos c3] at h
        refine E_sub (M := mX12_sale) (lv' := [(2, .int x2)]) [2] rfl ?_
        exact S_X12_sale_77 x2 I L _ h
      · rw [if_neg c3] at h
        refine E_iload_n (M := mX12_sale) 74 rfl dX12_sale_73 rfl 1 rfl ?_
        refine E_if_neB (M := mX12_sale) 82 77 (by decide) rfl dX12_sale_74 (fun c4 => ?_) (fun c4 => ?_)
        · rw [if_pos c4] at h
          refine E_lload (M := mX12_sale) 84 rfl dX12_sale_82 4 rfl ?_
          refine E_lload_n (M := mX12_sale) 85 rfl dX12_sale_84 rfl 3 rfl ?_
          refine E_lsub (M := mX12_sale) 86 rfl dX12_sale_85 ?_
          refine E_sub (M := mX12_sale) (lv' := []) [] rfl ?_
          exact S_X12_sale_86 (x5 - x3) I L _ h
        · rw [if_neg (by rw [c4]; decide)] at h
          refine E_sub (M := mX12_sale) (lv' := [(2, .int x2)]) [2] rfl ?_
          exact S_X12_sale_77 x2 I L _ h
    · rw [if_neg c2] at h
      refine E_aload_n (M := mX12_sale) 29 rfl dX12_sale_28 rfl 0 rfl ?_
      refine E_iload (M := mX12_sale) 31 rfl dX12_sale_29 5 rfl ?_
      replace h := Option.bind_eq_some_iff.mp h
      obtain ⟨w5, hw5, h⟩ := h
      refine E_cV1 (M := mX12_sale) (As := [.int x7]) 34 rfl dX12_sale_31 shc_149 ck_X12_370 cv_X12_valueOf rfl (by decide) (Nat.le_of_ble_eq_true rfl) (C_X12_valueOf (g := g) hw5) rfl ?_
      refine E_lstore (M := mX12_sale) (lv' := [(8, .long w5.1), (0, .ref 149), (1, .int (bI x1)), (2, .int x2), (3, .long x3), (5, .long x5), (7, .int x7)]) 36 rfl dX12_sale_34 (Nat.le_of_ble_eq_true rfl) rfl ?_
      refine E_lload (M := mX12_sale) 38 rfl dX12_sale_36 5 rfl ?_
      refine E_lload (M := mX12_sale) 40 rfl dX12_sale_38 0 rfl ?_
      refine E_ladd (M := mX12_sale) 41 rfl dX12_sale_40 ?_
      refine E_lstore (M := mX12_sale) (lv' := [(5, .long (x5 + w5.1)), (8, .long w5.1), (0, .ref 149), (1, .int (bI x1)), (2, .int x2), (3, .long x3), (7, .int x7)]) 43 rfl dX12_sale_41 (Nat.le_of_ble_eq_true rfl) rfl ?_
      refine E_iload_n (M := mX12_sale) 44 rfl dX12_sale_43 rfl 4 rfl ?_
      refine E_if_lt (M := mX12_sale) 57 47 (by decide) rfl dX12_sale_44 (fun c6 => ?_) (fun c6 => ?_)
      · rw [if_pos c6] at h
        refine E_sub (M := mX12_sale) (lv' := [(0, .ref 149), (1, .int (bI x1)), (5, .long (x5 + w5.1)), (7, .int x7), (8, .long w5.1)]) [2, 3, 0, 6, 1] rfl ?_
        exact S_X12_sale_57 ih x1 (x5 + w5.1) x7 w5.1 w5.2.1 w5.2.2 _ h
      · rw [if_neg c6] at h
        refine E_lload (M := mX12_sale) 49 rfl dX12_sale_47 1 rfl ?_
        refine E_lload_n (M := mX12_sale) 50 rfl dX12_sale_49 rfl 5 rfl ?_
        refine E_lc_gt (M := mX12_sale) 57 51 54 (by decide) rfl rfl dX12_sale_50 dX12_sale_51 (fun c7 => ?_) (fun c7 => ?_)
        · rw [if_pos c7] at h
          refine E_sub (M := mX12_sale) (lv' := [(0, .ref 149), (1, .int (bI x1)), (5, .long (x5 + w5.1)), (7, .int x7), (8, .long w5.1)]) [2, 3, 0, 6, 1] rfl ?_
          exact S_X12_sale_57 ih x1 (x5 + w5.1) x7 w5.1 w5.2.1 w5.2.2 _ h
        · rw [if_neg c7] at h
          refine E_goto (M := mX12_sale) 63 (by decide) dX12_sale_54 ?_
          refine E_sub (M := mX12_sale) (lv' := [(0, .ref 149), (1, .int (bI x1)), (2, .int x2), (3, .long x3), (5, .long (x5 + w5.1)), (7, .int x7)]) [2, 3, 4, 5, 0, 6] rfl ?_
          exact S_X12_sale_63 ih x1 x2 x3 (x5 + w5.1) x7 w5.2.1 w5.2.2 _ h
def f_X12_sale (x1 : Bool) (I : MI) (L : ML) : Option (Int64 × MI × ML) := Option.bind (pfI I 149 0 0) fun I1 => Option.bind (f_X12_spreads I1 L) fun w2 => f_X12_sale_19 FU x1 ((-1)) 0 0 0 w2.1 w2.2
set_option maxRecDepth 100000 in
theorem S_X12_sale {g : Gx} (x1 : Bool) (I : MI) (L : ML) (res : Int64 × MI × ML) (h : f_X12_sale x1 I L = some res) : E g 13 0 mX12_sale 0 [(0, .ref 149), (1, .int (bI x1))] [] (I, L) (.inl (some (.long res.1))) (res.2.1, res.2.2) := by
  unfold f_X12_sale at h
  refine E_aload_n (M := mX12_sale) 1 rfl dX12_sale_0 rfl 0 rfl ?_
  refine E_iconst (M := mX12_sale) (v := 0) 2 rfl dX12_sale_1 (by decide) ?_
  replace h := Option.bind_eq_some_iff.mp h
  obtain ⟨I1, hI1, h⟩ := h
  refine E_pfI (M := mX12_sale) 5 rfl dX12_sale_2 shc_149 fl_X12_3 rfl hI1 ?_
  refine E_aload_n (M := mX12_sale) 6 rfl dX12_sale_5 rfl 0 rfl ?_
  replace h := Option.bind_eq_some_iff.mp h
  obtain ⟨w2, hw2, h⟩ := h
  refine E_cV0 (M := mX12_sale) (As := []) 9 rfl dX12_sale_6 shc_149 ck_X12_298 cv_X12_spreads rfl (by decide) (Nat.le_of_ble_eq_true rfl) (C_X12_spreads (g := g) hw2) rfl ?_
  refine E_iconst (M := mX12_sale) (v := (-1)) 10 rfl dX12_sale_9 (by decide) ?_
  refine E_istore_n (M := mX12_sale) (lv' := [(2, .int ((-1))), (0, .ref 149), (1, .int (bI x1))]) 11 rfl dX12_sale_10 rfl (Nat.le_of_ble_eq_true rfl) rfl ?_
  refine E_lconst (M := mX12_sale) (v := 0) 12 rfl dX12_sale_11 (by decide) ?_
  refine E_lstore_n (M := mX12_sale) (lv' := [(3, .long 0), (2, .int ((-1))), (0, .ref 149), (1, .int (bI x1))]) 13 rfl dX12_sale_12 rfl (Nat.le_of_ble_eq_true rfl) rfl ?_
  refine E_lconst (M := mX12_sale) (v := 0) 14 rfl dX12_sale_13 (by decide) ?_
  refine E_lstore (M := mX12_sale) (lv' := [(5, .long 0), (3, .long 0), (2, .int ((-1))), (0, .ref 149), (1, .int (bI x1))]) 16 rfl dX12_sale_14 (Nat.le_of_ble_eq_true rfl) rfl ?_
  refine E_iconst (M := mX12_sale) (v := 0) 17 rfl dX12_sale_16 (by decide) ?_
  refine E_istore (M := mX12_sale) (lv' := [(7, .int 0), (5, .long 0), (3, .long 0), (2, .int ((-1))), (0, .ref 149), (1, .int (bI x1))]) 19 rfl dX12_sale_17 (Nat.le_of_ble_eq_true rfl) rfl ?_
  refine E_sub (M := mX12_sale) (lv' := [(0, .ref 149), (1, .int (bI x1)), (2, .int ((-1))), (3, .long 0), (5, .long 0), (7, .int 0)]) [4, 5, 3, 2, 1, 0] rfl ?_
  exact S_X12_sale_19 FU x1 ((-1)) 0 0 0 w2.1 w2.2 _ h
theorem C_X12_sale {g : Gx} {x1 : Bool} {I : MI} {L : ML} {res : Int64 × MI × ML} (h : f_X12_sale x1 I L = some res) : Ent g 13 0 mX12_sale [.ref 149, .int (bI x1)] (I, L) (.inl (some (.long res.1))) (res.2.1, res.2.2) := Ent_of (by decide +kernel) (Nat.le_of_ble_eq_true rfl) (S_X12_sale x1 I L _ h)
def f_X12_seed (x1 : Int32) (I : MI) (L : ML) : Option (Int32 × MI × ML) := Option.bind (pfI I 149 0 0) fun I1 => Option.bind (ldI I1 150 2143 13) fun v2 => Option.bind (stI I1 150 2143 13 x1) fun I3 => some (v2, I3, L)
set_option maxRecDepth 100000 in
theorem S_X12_seed {g : Gx} (x1 : Int32) (I : MI) (L : ML) (res : Int32 × MI × ML) (h : f_X12_seed x1 I L = some res) : E g 1 0 mX12_seed 0 [(0, .ref 149), (1, .int x1)] [] (I, L) (.inl (some (.int res.1))) (res.2.1, res.2.2) := by
  unfold f_X12_seed at h
  refine E_aload_n (M := mX12_seed) 1 rfl dX12_seed_0 rfl 0 rfl ?_
  refine E_iconst (M := mX12_seed) (v := 0) 2 rfl dX12_seed_1 (by decide) ?_
  replace h := Option.bind_eq_some_iff.mp h
  obtain ⟨I1, hI1, h⟩ := h
  refine E_pfI (M := mX12_seed) 5 rfl dX12_seed_2 shc_149 fl_X12_3 rfl hI1 ?_
  refine E_aload_n (M := mX12_seed) 6 rfl dX12_seed_5 rfl 0 rfl ?_
  refine E_gR (M := mX12_seed) 150 9 rfl dX12_seed_6 shc_149 fl_X12_13 rfl (by decide) (by decide) ?_
  refine E_bipush (M := mX12_seed) (v := 13) 11 rfl dX12_seed_9 (by decide) ?_
  replace h := Option.bind_eq_some_iff.mp h
  obtain ⟨v2, hv2, h⟩ := h
  refine E_ldI (M := mX12_seed) 12 rfl dX12_seed_11 shc_150 hv2 ?_
  refine E_istore_n (M := mX12_seed) (lv' := [(2, .int v2), (0, .ref 149), (1, .int x1)]) 13 rfl dX12_seed_12 rfl (Nat.le_of_ble_eq_true rfl) rfl ?_
  refine E_aload_n (M := mX12_seed) 14 rfl dX12_seed_13 rfl 1 rfl ?_
  refine E_gR (M := mX12_seed) 150 17 rfl dX12_seed_14 shc_149 fl_X12_13 rfl (by decide) (by decide) ?_
  refine E_bipush (M := mX12_seed) (v := 13) 19 rfl dX12_seed_17 (by decide) ?_
  refine E_iload_n (M := mX12_seed) 20 rfl dX12_seed_19 rfl 2 rfl ?_
  replace h := Option.bind_eq_some_iff.mp h
  obtain ⟨I3, hI3, h⟩ := h
  refine E_stI (M := mX12_seed) 21 rfl dX12_seed_20 shc_150 hI3 ?_
  refine E_iload_n (M := mX12_seed) 22 rfl dX12_seed_21 rfl 0 rfl ?_
  cases h
  exact E_iret (M := mX12_seed) rfl dX12_seed_22
theorem C_X12_seed {g : Gx} {x1 : Int32} {I : MI} {L : ML} {res : Int32 × MI × ML} (h : f_X12_seed x1 I L = some res) : Ent g 1 0 mX12_seed [.ref 149, .int x1] (I, L) (.inl (some (.int res.1))) (res.2.1, res.2.2) := Ent_of (by decide +kernel) (Nat.le_of_ble_eq_true rfl) (S_X12_seed x1 I L _ h)
def f_X12_count_80 (y0 : Int32) (I : MI) (L : ML) : Option (Int32 × MI × ML) := some (y0, I, L)
set_option maxRecDepth 100000 in
theorem S_X12_count_80 {g : Gx} (y0 : Int32) (I : MI) (L : ML) (res : Int32 × MI × ML) (h : f_X12_count_80 y0 I L = some res) : E g 2 0 mX12_count 80 [] [.int y0] (I, L) (.inl (some (.int res.1))) (res.2.1, res.2.2) := by
  unfold f_X12_count_80 at h
  cases h
  exact E_iret (M := mX12_count) rfl dX12_count_80
def f_X12_count_54 (y0 : Int32) (I : MI) (L : ML) : Option (Int32 × MI × ML) := some (y0, I, L)
set_option maxRecDepth 100000 in
theorem S_X12_count_54 {g : Gx} (y0 : Int32) (I : MI) (L : ML) (res : Int32 × MI × ML) (h : f_X12_count_54 y0 I L = some res) : E g 2 0 mX12_count 54 [] [.int y0] (I, L) (.inl (some (.int res.1))) (res.2.1, res.2.2) := by
  unfold f_X12_count_54 at h
  cases h
  exact E_iret (M := mX12_count) rfl dX12_count_54
def f_X12_count (x1 : Int32) (I : MI) (L : ML) : Option (Int32 × MI × ML) := Option.bind (pfI I 149 0 0) fun I1 => if x1 = 5 then (Option.bind (ldI I1 150 2143 5) fun v3 => if v3 = 1 then (Option.bind (ldI I1 150 2143 445) fun v5 => f_X12_count_54 v5 I1 L) else (f_X12_count_54 ((-1)) I1 L)) else if x1 = 13 then (some (I1 149 6, I1, L)) else (Option.bind (f_X12_in x1 0 12 I1 L) fun v7 => if v7 = true then (Option.bind (ldI I1 150 2143 x1) fun v9 => f_X12_count_80 v9 I1 L) else (f_X12_count_80 ((-1)) I1 L))
set_option maxRecDepth 100000 in
theorem S_X12_count {g : Gx} (x1 : Int32) (I : MI) (L : ML) (res : Int32 × MI × ML) (h : f_X12_count x1 I L = some res) : E g 2 0 mX12_count 0 [(0, .ref 149), (1, .int x1)] [] (I, L) (.inl (some (.int res.1))) (res.2.1, res.2.2) := by
  unfold f_X12_count at h
  refine E_aload_n (M := mX12_count) 1 rfl dX12_count_0 rfl 0 rfl ?_
  refine E_iconst (M := mX12_count) (v := 0) 2 rfl dX12_count_1 (by decide) ?_
  replace h := Option.bind_eq_some_iff.mp h
  obtain ⟨I1, hI1, h⟩ := h
  refine E_pfI (M := mX12_count) 5 rfl dX12_count_2 shc_149 fl_X12_3 rfl hI1 ?_
  refine E_iload_n (M := mX12_count) 6 rfl dX12_count_5 rfl 1 rfl ?_
  by_cases c2 : x1 = 5
  · rw [if_pos c2] at h
    refine E_lkIn (M := mX12_count) (off := 26) 5 c2 32 (by decide) (by decide) (by decide) dX12_count_6 ?_
    refine E_aload_n (M := mX12_count) 33 rfl dX12_count_32 rfl 0 rfl ?_
    refine E_gR (M := mX12_count) 150 36 rfl dX12_count_33 shc_149 fl_X12_13 rfl (by decide) (by decide) ?_
    refine E_iconst (M := mX12_count) (v := 5) 37 rfl dX12_count_36 (by decide) ?_
    replace h := Option.bind_eq_some_iff.mp h
    obtain ⟨v3, hv3, h⟩ := h
    refine E_ldI (M := mX12_count) 38 rfl dX12_count_37 shc_150 hv3 ?_
    refine E_iconst (M := mX12_count) (v := 1) 39 rfl dX12_count_38 (by decide) ?_
    refine E_icmp_ne (M := mX12_count) 53 42 (by decide) rfl dX12_count_39 (fun c4 => ?_) (fun c4 => ?_)
    · rw [if_neg c4] at h
      refine E_iconst (M := mX12_count) (v := (-1)) 54 rfl dX12_count_53 (by decide) ?_
      refine E_sub (M := mX12_count) (lv' := []) [] rfl ?_
      exact S_X12_count_54 ((-1)) I1 L _ h
    · rw [if_pos c4] at h
      refine E_aload_n (M := mX12_count) 43 rfl dX12_count_42 rfl 0 rfl ?_
      refine E_gR (M := mX12_count) 150 46 rfl dX12_count_43 shc_149 fl_X12_13 rfl (by decide) (by decide) ?_
      refine E_sipush (M := mX12_count) (v := 445) 49 rfl dX12_count_46 (by decide) ?_
      replace h := Option.bind_eq_some_iff.mp h
      obtain ⟨v5, hv5, h⟩ := h
      refine E_ldI (M := mX12_count) 50 rfl dX12_count_49 shc_150 hv5 ?_
      refine E_goto (M := mX12_count) 54 (by decide) dX12_count_50 ?_
      refine E_sub (M := mX12_count) (lv' := []) [] rfl ?_
      exact S_X12_count_54 v5 I1 L _ h
  rw [if_neg c2] at h
  by_cases c6 : x1 = 13
  · rw [if_pos c6] at h
    refine E_lkIn (M := mX12_count) (off := 49) 13 c6 55 (by decide) (by decide) (by decide) dX12_count_6 ?_
    refine E_aload_n (M := mX12_count) 56 rfl dX12_count_55 rfl 0 rfl ?_
    refine E_gI (M := mX12_count) 59 rfl dX12_count_56 shc_149 fl_X12_53 rfl ?_
    cases h
    exact E_iret (M := mX12_count) rfl dX12_count_59
  rw [if_neg c6] at h
  refine E_lk (M := mX12_count) (off := 54) 60 (by decide) (by decide) (lkOut2 (toI c2 (n := 5) (by decide)) (toI c6 (n := 13) (by decide))) dX12_count_6 ?_
  refine E_iload_n (M := mX12_count) 61 rfl dX12_count_60 rfl 1 rfl ?_
  refine E_iconst (M := mX12_count) (v := 0) 62 rfl dX12_count_61 (by decide) ?_
  refine E_bipush (M := mX12_count) (v := 12) 64 rfl dX12_count_62 (by decide) ?_
  replace h := Option.bind_eq_some_iff.mp h
  obtain ⟨v7, hv7, h⟩ := h
  refine E_cS1 (M := mX12_count) (As := [.int x1, .int 0, .int 12]) 67 rfl dX12_count_64 ck_X12_60 ss_X12_in rfl (by decide) (Nat.le_of_ble_eq_true rfl) (C_X12_in (g := g) hv7) rfl ?_
  refine E_if_eqB (M := mX12_count) 79 70 (by decide) rfl dX12_count_67 (fun c8 => ?_) (fun c8 => ?_)
  · rw [if_neg (by rw [c8]; decide)] at h
    refine E_iconst (M := mX12_count) (v := (-1)) 80 rfl dX12_count_79 (by decide) ?_
    refine E_sub (M := mX12_count) (lv' := []) [] rfl ?_
    exact S_X12_count_80 ((-1)) I1 L _ h
  · rw [if_pos c8] at h
    refine E_aload_n (M := mX12_count) 71 rfl dX12_count_70 rfl 0 rfl ?_
    refine E_gR (M := mX12_count) 150 74 rfl dX12_count_71 shc_149 fl_X12_13 rfl (by decide) (by decide) ?_
    refine E_iload_n (M := mX12_count) 75 rfl dX12_count_74 rfl 1 rfl ?_
    replace h := Option.bind_eq_some_iff.mp h
    obtain ⟨v9, hv9, h⟩ := h
    refine E_ldI (M := mX12_count) 76 rfl dX12_count_75 shc_150 hv9 ?_
    refine E_goto (M := mX12_count) 80 (by decide) dX12_count_76 ?_
    refine E_sub (M := mX12_count) (lv' := []) [] rfl ?_
    exact S_X12_count_80 v9 I1 L _ h
theorem C_X12_count {g : Gx} {x1 : Int32} {I : MI} {L : ML} {res : Int32 × MI × ML} (h : f_X12_count x1 I L = some res) : Ent g 2 0 mX12_count [.ref 149, .int x1] (I, L) (.inl (some (.int res.1))) (res.2.1, res.2.2) := Ent_of (by decide +kernel) (Nat.le_of_ble_eq_true rfl) (S_X12_count x1 I L _ h)
