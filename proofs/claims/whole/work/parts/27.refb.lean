def f_X12_readHouseLine_146 (y0 : Bool) (I : MI) (L : ML) : Option (Bool × MI × ML) := some (y0, I, L)
set_option maxRecDepth 100000 in
theorem S_X12_readHouseLine_146 {g : Gx} (y0 : Bool) (I : MI) (L : ML) (res : Bool × MI × ML) (h : f_X12_readHouseLine_146 y0 I L = some res) : E g 9 0 mX12_readHouseLine 146 [] [.int (bI y0)] (I, L) (.inl (some (.int (bI res.1)))) (res.2.1, res.2.2) := by
  unfold f_X12_readHouseLine_146 at h
  cases h
  exact E_zret (M := mX12_readHouseLine) (x := y0) rfl dX12_readHouseLine_146
def f_X12_readHouseLine_137 (x2 : Int32) (I : MI) (L : ML) : Option (Bool × MI × ML) := if x2 < 0 then (f_X12_readHouseLine_146 false I L) else (f_X12_readHouseLine_146 true I L)
set_option maxRecDepth 100000 in
theorem S_X12_readHouseLine_137 {g : Gx} (x2 : Int32) (I : MI) (L : ML) (res : Bool × MI × ML) (h : f_X12_readHouseLine_137 x2 I L = some res) : E g 9 0 mX12_readHouseLine 137 [(2, .int x2)] [] (I, L) (.inl (some (.int (bI res.1)))) (res.2.1, res.2.2) := by
  unfold f_X12_readHouseLine_137 at h
  refine E_iload_n (M := mX12_readHouseLine) 138 rfl dX12_readHouseLine_137 rfl 0 rfl ?_
  refine E_if_lt (M := mX12_readHouseLine) 145 141 (by decide) rfl dX12_readHouseLine_138 (fun c1 => ?_) (fun c1 => ?_)
  · rw [if_pos c1] at h
    refine E_iconst (M := mX12_readHouseLine) (v := 0) 146 rfl dX12_readHouseLine_145 (by decide) ?_
    refine E_sub (M := mX12_readHouseLine) (lv' := []) [] rfl ?_
    exact S_X12_readHouseLine_146 false I L _ h
  · rw [if_neg c1] at h
    refine E_iconst (M := mX12_readHouseLine) (v := 1) 142 rfl dX12_readHouseLine_141 (by decide) ?_
    refine E_goto (M := mX12_readHouseLine) 146 (by decide) dX12_readHouseLine_142 ?_
    refine E_sub (M := mX12_readHouseLine) (lv' := []) [] rfl ?_
    exact S_X12_readHouseLine_146 true I L _ h
def f_X12_readHouseLine_122 (x1 : Int32) (y0 : Int32) (I : MI) (L : ML) : Option (Bool × MI × ML) := if y0 < 0 then (f_X12_readHouseLine_137 y0 I L) else (Option.bind (stI I 150 2143 (15 + x1) y0) fun I2 => f_X12_readHouseLine_137 y0 I2 L)
set_option maxRecDepth 100000 in
theorem S_X12_readHouseLine_122 {g : Gx} (x1 : Int32) (y0 : Int32) (I : MI) (L : ML) (res : Bool × MI × ML) (h : f_X12_readHouseLine_122 x1 y0 I L = some res) : E g 9 0 mX12_readHouseLine 122 [(0, .ref 149), (1, .int x1)] [.int y0] (I, L) (.inl (some (.int (bI res.1)))) (res.2.1, res.2.2) := by
  unfold f_X12_readHouseLine_122 at h
  refine E_istore_n (M := mX12_readHouseLine) (lv' := [(2, .int y0), (0, .ref 149), (1, .int x1)]) 123 rfl dX12_readHouseLine_122 rfl (Nat.le_of_ble_eq_true rfl) rfl ?_
  refine E_iload_n (M := mX12_readHouseLine) 124 rfl dX12_readHouseLine_123 rfl 0 rfl ?_
  refine E_if_lt (M := mX12_readHouseLine) 137 127 (by decide) rfl dX12_readHouseLine_124 (fun c1 => ?_) (fun c1 => ?_)
  · rw [if_pos c1] at h
    refine E_sub (M := mX12_readHouseLine) (lv' := [(2, .int y0)]) [0] rfl ?_
    exact S_X12_readHouseLine_137 y0 I L _ h
  · rw [if_neg c1] at h
    refine E_aload_n (M := mX12_readHouseLine) 128 rfl dX12_readHouseLine_127 rfl 1 rfl ?_
    refine E_gR (M := mX12_readHouseLine) 150 131 rfl dX12_readHouseLine_128 shc_149 fl_X12_13 rfl (by decide) (by decide) ?_
    refine E_bipush (M := mX12_readHouseLine) (v := 15) 133 rfl dX12_readHouseLine_131 (by decide) ?_
    refine E_iload_n (M := mX12_readHouseLine) 134 rfl dX12_readHouseLine_133 rfl 2 rfl ?_
    refine E_iadd (M := mX12_readHouseLine) 135 rfl dX12_readHouseLine_134 ?_
    refine E_iload_n (M := mX12_readHouseLine) 136 rfl dX12_readHouseLine_135 rfl 0 rfl ?_
    replace h := Option.bind_eq_some_iff.mp h
    obtain ⟨I2, hI2, h⟩ := h
    refine E_stI (M := mX12_readHouseLine) 137 rfl dX12_readHouseLine_136 shc_150 hI2 ?_
    refine E_sub (M := mX12_readHouseLine) (lv' := [(2, .int y0)]) [0] rfl ?_
    exact S_X12_readHouseLine_137 y0 I2 L _ h
def f_X12_readHouseLine_90 (y0 : Bool) (I : MI) (L : ML) : Option (Bool × MI × ML) := some (y0, I, L)
set_option maxRecDepth 100000 in
theorem S_X12_readHouseLine_90 {g : Gx} (y0 : Bool) (I : MI) (L : ML) (res : Bool × MI × ML) (h : f_X12_readHouseLine_90 y0 I L = some res) : E g 9 0 mX12_readHouseLine 90 [] [.int (bI y0)] (I, L) (.inl (some (.int (bI res.1)))) (res.2.1, res.2.2) := by
  unfold f_X12_readHouseLine_90 at h
  cases h
  exact E_zret (M := mX12_readHouseLine) (x := y0) rfl dX12_readHouseLine_90
def f_X12_readHouseLine (I : MI) (L : ML) : Option (Bool × MI × ML) := Option.bind (f_X12_isWord 40 I L) fun v1 => if v1 = true then (Option.bind (f_X12_readRoom I L) fun w22 => some (w22.1, w22.2.1, w22.2.2)) else (Option.bind (f_X12_isWord 41 I L) fun v3 => if v3 = true then (Option.bind (f_X12_readDoor I L) fun w21 => some (w21.1, w21.2.1, w21.2.2)) else (Option.bind (f_X12_isWord 42 I L) fun v5 => if v5 = true then (Option.bind (f_X12_readHeir I L) fun w20 => some (w20.1, w20.2.1, w20.2.2)) else (Option.bind (f_X12_isWord 45 I L) fun v7 => if v7 = true then (Option.bind (f_X12_readNoise I L) fun w19 => some (w19.1, w19.2.1, w19.2.2)) else (Option.bind (f_X12_isWord 53 I L) fun v9 => if v9 = true then (Option.bind (f_X12_number 0 100 I L) fun w16 => Option.bind (stI w16.2.1 150 2143 8 w16.1) fun I17 => if w16.1 < 0 then (f_X12_readHouseLine_90 false I17 w16.2.2) else (f_X12_readHouseLine_90 true I17 w16.2.2)) else (Option.bind (f_X12_isWord 54 I L) fun v11 => if v11 = true then (Option.bind (f_X12_roomTold I L) fun w13 => if 0 ≤ w13.1 then (Option.bind (f_X12_number 0 20 w13.2.1 w13.2.2) fun w15 => f_X12_readHouseLine_122 w13.1 w15.1 w15.2.1 w15.2.2) else (f_X12_readHouseLine_122 w13.1 ((-1)) w13.2.1 w13.2.2)) else (some (false, I, L)))))))
set_option maxRecDepth 100000 in
theorem S_X12_readHouseLine {g : Gx} (I : MI) (L : ML) (res : Bool × MI × ML) (h : f_X12_readHouseLine I L = some res) : E g 9 0 mX12_readHouseLine 0 [(0, .ref 149)] [] (I, L) (.inl (some (.int (bI res.1)))) (res.2.1, res.2.2) := by
  unfold f_X12_readHouseLine at h
  refine E_aload_n (M := mX12_readHouseLine) 1 rfl dX12_readHouseLine_0 rfl 0 rfl ?_
  refine E_ldcS (M := mX12_readHouseLine) 40 (by decide) 3 rfl dX12_readHouseLine_1 rfl ?_
  replace h := Option.bind_eq_some_iff.mp h
  obtain ⟨v1, hv1, h⟩ := h
  refine E_cV1 (M := mX12_readHouseLine) (As := [.ref (100000 + 40)]) 6 rfl dX12_readHouseLine_3 shc_149 ck_X12_101 cv_X12_isWord rfl (by decide) (Nat.le_of_ble_eq_true rfl) (C_X12_isWord (g := g) (by decide) hv1) rfl ?_
  refine E_if_eqB (M := mX12_readHouseLine) 14 9 (by decide) rfl dX12_readHouseLine_6 (fun c2 => ?_) (fun c2 => ?_)
  · rw [if_neg (by rw [c2]; decide)] at h
    refine E_aload_n (M := mX12_readHouseLine) 15 rfl dX12_readHouseLine_14 rfl 0 rfl ?_
    refine E_ldcS (M := mX12_readHouseLine) 41 (by decide) 17 rfl dX12_readHouseLine_15 rfl ?_
    replace h := Option.bind_eq_some_iff.mp h
    obtain ⟨v3, hv3, h⟩ := h
    refine E_cV1 (M := mX12_readHouseLine) (As := [.ref (100000 + 41)]) 20 rfl dX12_readHouseLine_17 shc_149 ck_X12_101 cv_X12_isWord rfl (by decide) (Nat.le_of_ble_eq_true rfl) (C_X12_isWord (g := g) (by decide) hv3) rfl ?_
    refine E_if_eqB (M := mX12_readHouseLine) 28 23 (by decide) rfl dX12_readHouseLine_20 (fun c4 => ?_) (fun c4 => ?_)
    · rw [if_neg (by rw [c4]; decide)] at h
      refine E_aload_n (M := mX12_readHouseLine) 29 rfl dX12_readHouseLine_28 rfl 0 rfl ?_
      refine E_ldcS (M := mX12_readHouseLine) 42 (by decide) 31 rfl dX12_readHouseLine_29 rfl ?_
      replace h := Option.bind_eq_some_iff.mp h
      obtain ⟨v5, hv5, h⟩ := h
      refine E_cV1 (M := mX12_readHouseLine) (As := [.ref (100000 + 42)]) 34 rfl dX12_readHouseLine_31 shc_149 ck_X12_101 cv_X12_isWord rfl (by decide) (Nat.le_of_ble_eq_true rfl) (C_X12_isWord (g := g) (by decide) hv5) rfl ?_
      refine E_if_eqB (M := mX12_readHouseLine) 42 37 (by decide) rfl dX12_readHouseLine_34 (fun c6 => ?_) (fun c6 => ?_)
      · rw [if_neg (by rw [c6]; decide)] at h
        refine E_aload_n (M := mX12_readHouseLine) 43 rfl dX12_readHouseLine_42 rfl 0 rfl ?_
        refine E_ldcS (M := mX12_readHouseLine) 45 (by decide) 45 rfl dX12_readHouseLine_43 rfl ?_
        replace h := Option.bind_eq_some_iff.mp h
        obtain ⟨v7, hv7, h⟩ := h
        refine E_cV1 (M := mX12_readHouseLine) (As := [.ref (100000 + 45)]) 48 rfl dX12_readHouseLine_45 shc_149 ck_X12_101 cv_X12_isWord rfl (by decide) (Nat.le_of_ble_eq_true rfl) (C_X12_isWord (g := g) (by decide) hv7) rfl ?_
        refine E_if_eqB (M := mX12_readHouseLine) 56 51 (by decide) rfl dX12_readHouseLine_48 (fun c8 => ?_) (fun c8 => ?_)
        · rw [if_neg (by rw [c8]; decide)] at h
          refine E_aload_n (M := mX12_readHouseLine) 57 rfl dX12_readHouseLine_56 rfl 0 rfl ?_
          refine E_ldcS (M := mX12_readHouseLine) 53 (by decide) 59 rfl dX12_readHouseLine_57 rfl ?_
          replace h := Option.bind_eq_some_iff.mp h
          obtain ⟨v9, hv9, h⟩ := h
          refine E_cV1 (M := mX12_readHouseLine) (As := [.ref (100000 + 53)]) 62 rfl dX12_readHouseLine_59 shc_149 ck_X12_101 cv_X12_isWord rfl (by decide) (Nat.le_of_ble_eq_true rfl) (C_X12_isWord (g := g) (by decide) hv9) rfl ?_
          refine E_if_eqB (M := mX12_readHouseLine) 91 65 (by decide) rfl dX12_readHouseLine_62 (fun c10 => ?_) (fun c10 => ?_)
          · rw [if_neg (by rw [c10]; decide)] at h
            refine E_aload_n (M := mX12_readHouseLine) 92 rfl dX12_readHouseLine_91 rfl 0 rfl ?_
            refine E_ldcS (M := mX12_readHouseLine) 54 (by decide) 94 rfl dX12_readHouseLine_92 rfl ?_
            replace h := Option.bind_eq_some_iff.mp h
            obtain ⟨v11, hv11, h⟩ := h
            refine E_cV1 (M := mX12_readHouseLine) (As := [.ref (100000 + 54)]) 97 rfl dX12_readHouseLine_94 shc_149 ck_X12_101 cv_X12_isWord rfl (by decide) (Nat.le_of_ble_eq_true rfl) (C_X12_isWord (g := g) (by decide) hv11) rfl ?_
            refine E_if_neB (M := mX12_readHouseLine) 102 100 (by decide) rfl dX12_readHouseLine_97 (fun c12 => ?_) (fun c12 => ?_)
            · rw [if_pos c12] at h
              refine E_aload_n (M := mX12_readHouseLine) 103 rfl dX12_readHouseLine_102 rfl 0 rfl ?_
              replace h := Option.bind_eq_some_iff.mp h
              obtain ⟨w13, hw13, h⟩ := h
              refine E_cV1 (M := mX12_readHouseLine) (As := []) 106 rfl dX12_readHouseLine_103 shc_149 ck_X12_112 cv_X12_roomTold rfl (by decide) (Nat.le_of_ble_eq_true rfl) (C_X12_roomTold (g := g) hw13) rfl ?_
              refine E_istore_n (M := mX12_readHouseLine) (lv' := [(1, .int w13.1), (0, .ref 149)]) 107 rfl dX12_readHouseLine_106 rfl (Nat.le_of_ble_eq_true rfl) rfl ?_
              refine E_iload_n (M := mX12_readHouseLine) 108 rfl dX12_readHouseLine_107 rfl 0 rfl ?_
              refine E_if_ge (M := mX12_readHouseLine) 115 111 (by decide) rfl dX12_readHouseLine_108 (fun c14 => ?_) (fun c14 => ?_)
              · rw [if_pos c14] at h
                refine E_aload_n (M := mX12_readHouseLine) 116 rfl dX12_readHouseLine_115 rfl 1 rfl ?_
                refine E_iconst (M := mX12_readHouseLine) (v := 0) 117 rfl dX12_readHouseLine_116 (by decide) ?_
                refine E_bipush (M := mX12_readHouseLine) (v := 20) 119 rfl dX12_readHouseLine_117 (by decide) ?_
                replace h := Option.bind_eq_some_iff.mp h
                obtain ⟨w15, hw15, h⟩ := h
                refine E_cV1 (M := mX12_readHouseLine) (As := [.int 0, .int 20]) 122 rfl dX12_readHouseLine_119 shc_149 ck_X12_108 cv_X12_number rfl (by decide) (Nat.le_of_ble_eq_true rfl) (C_X12_number (g := g) hw15) rfl ?_
                refine E_sub (M := mX12_readHouseLine) (lv' := [(0, .ref 149), (1, .int w13.1)]) [1, 0] rfl ?_
                exact S_X12_readHouseLine_122 w13.1 w15.1 w15.2.1 w15.2.2 _ h
              · rw [if_neg c14] at h
                refine E_iconst (M := mX12_readHouseLine) (v := (-1)) 112 rfl dX12_readHouseLine_111 (by decide) ?_
                refine E_goto (M := mX12_readHouseLine) 122 (by decide) dX12_readHouseLine_112 ?_
                refine E_sub (M := mX12_readHouseLine) (lv' := [(0, .ref 149), (1, .int w13.1)]) [1, 0] rfl ?_
                exact S_X12_readHouseLine_122 w13.1 ((-1)) w13.2.1 w13.2.2 _ h
            · rw [if_neg (by rw [c12]; decide)] at h
              refine E_iconst (M := mX12_readHouseLine) (v := 0) 101 rfl dX12_readHouseLine_100 (by decide) ?_
              cases h
              exact E_zret (M := mX12_readHouseLine) (x := false) rfl dX12_readHouseLine_101
          · rw [if_pos c10] at h
            refine E_aload_n (M := mX12_readHouseLine) 66 rfl dX12_readHouseLine_65 rfl 0 rfl ?_
            refine E_iconst (M := mX12_readHouseLine) (v := 0) 67 rfl dX12_readHouseLine_66 (by decide) ?_
            refine E_bipush (M := mX12_readHouseLine) (v := 100) 69 rfl dX12_readHouseLine_67 (by decide) ?_
            replace h := Option.bind_eq_some_iff.mp h
            obtain ⟨w16, hw16, h⟩ := h
            refine E_cV1 (M := mX12_readHouseLine) (As := [.int 0, .int 100]) 72 rfl dX12_readHouseLine_69 shc_149 ck_X12_108 cv_X12_number rfl (by decide) (Nat.le_of_ble_eq_true rfl) (C_X12_number (g := g) hw16) rfl ?_
            refine E_istore_n (M := mX12_readHouseLine) (lv' := [(1, .int w16.1), (0, .ref 149)]) 73 rfl dX12_readHouseLine_72 rfl (Nat.le_of_ble_eq_true rfl) rfl ?_
            refine E_aload_n (M := mX12_readHouseLine) 74 rfl dX12_readHouseLine_73 rfl 1 rfl ?_
            refine E_gR (M := mX12_readHouseLine) 150 77 rfl dX12_readHouseLine_74 shc_149 fl_X12_13 rfl (by decide) (by decide) ?_
            refine E_bipush (M := mX12_readHouseLine) (v := 8) 79 rfl dX12_readHouseLine_77 (by decide) ?_
            refine E_iload_n (M := mX12_readHouseLine) 80 rfl dX12_readHouseLine_79 rfl 0 rfl ?_
            replace h := Option.bind_eq_some_iff.mp h
            obtain ⟨I17, hI17, h⟩ := h
            refine E_stI (M := mX12_readHouseLine) 81 rfl dX12_readHouseLine_80 shc_150 hI17 ?_
            refine E_iload_n (M := mX12_readHouseLine) 82 rfl dX12_readHouseLine_81 rfl 0 rfl ?_
            refine E_if_lt (M := mX12_readHouseLine) 89 85 (by decide) rfl dX12_readHouseLine_82 (fun c18 => ?_) (fun c18 => ?_)
            · rw [if_pos c18] at h
              refine E_iconst (M := mX12_readHouseLine) (v := 0) 90 rfl dX12_readHouseLine_89 (by decide) ?_
              refine E_sub (M := mX12_readHouseLine) (lv' := []) [] rfl ?_
              exact S_X12_readHouseLine_90 false I17 w16.2.2 _ h
            · rw [if_neg c18] at h
              refine E_iconst (M := mX12_readHouseLine) (v := 1) 86 rfl dX12_readHouseLine_85 (by decide) ?_
              refine E_goto (M := mX12_readHouseLine) 90 (by decide) dX12_readHouseLine_86 ?_
              refine E_sub (M := mX12_readHouseLine) (lv' := []) [] rfl ?_
              exact S_X12_readHouseLine_90 true I17 w16.2.2 _ h
        · rw [if_pos c8] at h
          refine E_aload_n (M := mX12_readHouseLine) 52 rfl dX12_readHouseLine_51 rfl 0 rfl ?_
          replace h := Option.bind_eq_some_iff.mp h
          obtain ⟨w19, hw19, h⟩ := h
          refine E_cV1 (M := mX12_readHouseLine) (As := []) 55 rfl dX12_readHouseLine_52 shc_149 ck_X12_164 cv_X12_readNoise rfl (by decide) (Nat.le_of_ble_eq_true rfl) (C_X12_readNoise (g := g) hw19) rfl ?_
          cases h
          exact E_zret (M := mX12_readHouseLine) (x := w19.1) rfl dX12_readHouseLine_55
      · rw [if_pos c6] at h
        refine E_aload_n (M := mX12_readHouseLine) 38 rfl dX12_readHouseLine_37 rfl 0 rfl ?_
        replace h := Option.bind_eq_some_iff.mp h
        obtain ⟨w20, hw20, h⟩ := h
        refine E_cV1 (M := mX12_readHouseLine) (As := []) 41 rfl dX12_readHouseLine_38 shc_149 ck_X12_159 cv_X12_readHeir rfl (by decide) (Nat.le_of_ble_eq_true rfl) (C_X12_readHeir (g := g) hw20) rfl ?_
        cases h
        exact E_zret (M := mX12_readHouseLine) (x := w20.1) rfl dX12_readHouseLine_41
    · rw [if_pos c4] at h
      refine E_aload_n (M := mX12_readHouseLine) 24 rfl dX12_readHouseLine_23 rfl 0 rfl ?_
      replace h := Option.bind_eq_some_iff.mp h
      obtain ⟨w21, hw21, h⟩ := h
      refine E_cV1 (M := mX12_readHouseLine) (As := []) 27 rfl dX12_readHouseLine_24 shc_149 ck_X12_154 cv_X12_readDoor rfl (by decide) (Nat.le_of_ble_eq_true rfl) (C_X12_readDoor (g := g) hw21) rfl ?_
      cases h
      exact E_zret (M := mX12_readHouseLine) (x := w21.1) rfl dX12_readHouseLine_27
  · rw [if_pos c2] at h
    refine E_aload_n (M := mX12_readHouseLine) 10 rfl dX12_readHouseLine_9 rfl 0 rfl ?_
    replace h := Option.bind_eq_some_iff.mp h
    obtain ⟨w22, hw22, h⟩ := h
    refine E_cV1 (M := mX12_readHouseLine) (As := []) 13 rfl dX12_readHouseLine_10 shc_149 ck_X12_148 cv_X12_readRoom rfl (by decide) (Nat.le_of_ble_eq_true rfl) (C_X12_readRoom (g := g) hw22) rfl ?_
    cases h
    exact E_zret (M := mX12_readHouseLine) (x := w22.1) rfl dX12_readHouseLine_13
theorem C_X12_readHouseLine {g : Gx} {I : MI} {L : ML} {res : Bool × MI × ML} (h : f_X12_readHouseLine I L = some res) : Ent g 9 0 mX12_readHouseLine [.ref 149] (I, L) (.inl (some (.int (bI res.1)))) (res.2.1, res.2.2) := Ent_of (by decide +kernel) (Nat.le_of_ble_eq_true rfl) (S_X12_readHouseLine I L _ h)
def f_X12_emits (x1 : Int32) (x2 : Int32) (I : MI) (L : ML) : Option (MI × ML) := Option.bind (stI I 150 2143 (1343 + (2 * (I 149 15))) x1) fun I1 => Option.bind (stI I1 150 2143 ((1343 + (2 * (I1 149 15))) + 1) x2) fun I2 => Option.bind (pfI I2 149 15 ((I2 149 15) + 1)) fun I3 => some (I3, L)
set_option maxRecDepth 100000 in
theorem S_X12_emits {g : Gx} (x1 : Int32) (x2 : Int32) (I : MI) (L : ML) (res : MI × ML) (h : f_X12_emits x1 x2 I L = some res) : E g 1 0 mX12_emits 0 [(0, .ref 149), (1, .int x1), (2, .int x2)] [] (I, L) (.inl none) (res.1, res.2) := by
  unfold f_X12_emits at h
  refine E_aload_n (M := mX12_emits) 1 rfl dX12_emits_0 rfl 0 rfl ?_
  refine E_gR (M := mX12_emits) 150 4 rfl dX12_emits_1 shc_149 fl_X12_13 rfl (by decide) (by decide) ?_
  refine E_sipush (M := mX12_emits) (v := 1343) 7 rfl dX12_emits_4 (by decide) ?_
  refine E_iconst (M := mX12_emits) (v := 2) 8 rfl dX12_emits_7 (by decide) ?_
  refine E_aload_n (M := mX12_emits) 9 rfl dX12_emits_8 rfl 0 rfl ?_
  refine E_gI (M := mX12_emits) 12 rfl dX12_emits_9 shc_149 fl_X12_171 rfl ?_
  refine E_imul (M := mX12_emits) 13 rfl dX12_emits_12 ?_
  refine E_iadd (M := mX12_emits) 14 rfl dX12_emits_13 ?_
  refine E_iload_n (M := mX12_emits) 15 rfl dX12_emits_14 rfl 1 rfl ?_
  replace h := Option.bind_eq_some_iff.mp h
  obtain ⟨I1, hI1, h⟩ := h
  refine E_stI (M := mX12_emits) 16 rfl dX12_emits_15 shc_150 hI1 ?_
  refine E_aload_n (M := mX12_emits) 17 rfl dX12_emits_16 rfl 0 rfl ?_
  refine E_gR (M := mX12_emits) 150 20 rfl dX12_emits_17 shc_149 fl_X12_13 rfl (by decide) (by decide) ?_
  refine E_sipush (M := mX12_emits) (v := 1343) 23 rfl dX12_emits_20 (by decide) ?_
  refine E_iconst (M := mX12_emits) (v := 2) 24 rfl dX12_emits_23 (by decide) ?_
  refine E_aload_n (M := mX12_emits) 25 rfl dX12_emits_24 rfl 0 rfl ?_
  refine E_gI (M := mX12_emits) 28 rfl dX12_emits_25 shc_149 fl_X12_171 rfl ?_
  refine E_imul (M := mX12_emits) 29 rfl dX12_emits_28 ?_
  refine E_iadd (M := mX12_emits) 30 rfl dX12_emits_29 ?_
  refine E_iconst (M := mX12_emits) (v := 1) 31 rfl dX12_emits_30 (by decide) ?_
  refine E_iadd (M := mX12_emits) 32 rfl dX12_emits_31 ?_
  refine E_iload_n (M := mX12_emits) 33 rfl dX12_emits_32 rfl 2 rfl ?_
  replace h := Option.bind_eq_some_iff.mp h
  obtain ⟨I2, hI2, h⟩ := h
  refine E_stI (M := mX12_emits) 34 rfl dX12_emits_33 shc_150 hI2 ?_
  refine E_aload_n (M := mX12_emits) 35 rfl dX12_emits_34 rfl 0 rfl ?_
  refine E_dup (M := mX12_emits) 36 rfl dX12_emits_35 rfl ?_
  refine E_gI (M := mX12_emits) 39 rfl dX12_emits_36 shc_149 fl_X12_171 rfl ?_
  refine E_iconst (M := mX12_emits) (v := 1) 40 rfl dX12_emits_39 (by decide) ?_
  refine E_iadd (M := mX12_emits) 41 rfl dX12_emits_40 ?_
  replace h := Option.bind_eq_some_iff.mp h
  obtain ⟨I3, hI3, h⟩ := h
  refine E_pfI (M := mX12_emits) 44 rfl dX12_emits_41 shc_149 fl_X12_171 rfl hI3 ?_
  cases h
  exact E_vret (M := mX12_emits) rfl dX12_emits_44
theorem C_X12_emits {g : Gx} {x1 : Int32} {x2 : Int32} {I : MI} {L : ML} {res : MI × ML} (h : f_X12_emits x1 x2 I L = some res) : Ent g 1 0 mX12_emits [.ref 149, .int x1, .int x2] (I, L) (.inl none) (res.1, res.2) := Ent_of (by decide +kernel) (Nat.le_of_ble_eq_true rfl) (S_X12_emits x1 x2 I L _ h)
def f_X12_readPart_129 (y0 : Bool) (I : MI) (L : ML) : Option (Bool × MI × ML) := some (y0, I, L)
set_option maxRecDepth 100000 in
theorem S_X12_readPart_129 {g : Gx} (y0 : Bool) (I : MI) (L : ML) (res : Bool × MI × ML) (h : f_X12_readPart_129 y0 I L = some res) : E g 6 0 mX12_readPart 129 [] [.int (bI y0)] (I, L) (.inl (some (.int (bI res.1)))) (res.2.1, res.2.2) := by
  unfold f_X12_readPart_129 at h
  cases h
  exact E_zret (M := mX12_readPart) (x := y0) rfl dX12_readPart_129
def f_X12_readPart_120 (x1 : Int32) (I : MI) (L : ML) : Option (Bool × MI × ML) := if x1 < 0 then (f_X12_readPart_129 false I L) else (f_X12_readPart_129 true I L)
set_option maxRecDepth 100000 in
theorem S_X12_readPart_120 {g : Gx} (x1 : Int32) (I : MI) (L : ML) (res : Bool × MI × ML) (h : f_X12_readPart_120 x1 I L = some res) : E g 6 0 mX12_readPart 120 [(1, .int x1)] [] (I, L) (.inl (some (.int (bI res.1)))) (res.2.1, res.2.2) := by
  unfold f_X12_readPart_120 at h
  refine E_iload_n (M := mX12_readPart) 121 rfl dX12_readPart_120 rfl 0 rfl ?_
  refine E_if_lt (M := mX12_readPart) 128 124 (by decide) rfl dX12_readPart_121 (fun c1 => ?_) (fun c1 => ?_)
  · rw [if_pos c1] at h
    refine E_iconst (M := mX12_readPart) (v := 0) 129 rfl dX12_readPart_128 (by decide) ?_
    refine E_sub (M := mX12_readPart) (lv' := []) [] rfl ?_
    exact S_X12_readPart_129 false I L _ h
  · rw [if_neg c1] at h
    refine E_iconst (M := mX12_readPart) (v := 1) 125 rfl dX12_readPart_124 (by decide) ?_
    refine E_goto (M := mX12_readPart) 129 (by decide) dX12_readPart_125 ?_
    refine E_sub (M := mX12_readPart) (lv' := []) [] rfl ?_
    exact S_X12_readPart_129 true I L _ h
def f_X12_readPart_113 (y0 : Int32) (I : MI) (L : ML) : Option (Bool × MI × ML) := Option.bind (f_X12_emits y0 0 I L) fun w1 => f_X12_readPart_120 y0 w1.1 w1.2
set_option maxRecDepth 100000 in
theorem S_X12_readPart_113 {g : Gx} (y0 : Int32) (I : MI) (L : ML) (res : Bool × MI × ML) (h : f_X12_readPart_113 y0 I L = some res) : E g 6 0 mX12_readPart 113 [(0, .ref 149)] [.int y0] (I, L) (.inl (some (.int (bI res.1)))) (res.2.1, res.2.2) := by
  unfold f_X12_readPart_113 at h
  refine E_istore_n (M := mX12_readPart) (lv' := [(1, .int y0), (0, .ref 149)]) 114 rfl dX12_readPart_113 rfl (Nat.le_of_ble_eq_true rfl) rfl ?_
  refine E_aload_n (M := mX12_readPart) 115 rfl dX12_readPart_114 rfl 1 rfl ?_
  refine E_iload_n (M := mX12_readPart) 116 rfl dX12_readPart_115 rfl 0 rfl ?_
  refine E_iconst (M := mX12_readPart) (v := 0) 117 rfl dX12_readPart_116 (by decide) ?_
  replace h := Option.bind_eq_some_iff.mp h
  obtain ⟨w1, hw1, h⟩ := h
  refine E_cV0 (M := mX12_readPart) (As := [.int y0, .int 0]) 120 rfl dX12_readPart_117 shc_149 ck_X12_174 cv_X12_emits rfl (by decide) (Nat.le_of_ble_eq_true rfl) (C_X12_emits (g := g) hw1) rfl ?_
  refine E_sub (M := mX12_readPart) (lv' := [(1, .int y0)]) [0] rfl ?_
  exact S_X12_readPart_120 y0 w1.1 w1.2 _ h
def f_X12_readPart (I : MI) (L : ML) : Option (Bool × MI × ML) := Option.bind (f_X12_letters I L) fun w1 => if (w1.1 149 9) = (w1.1 149 11) then (Option.bind (f_X12_number 0 999 w1.1 w1.2) fun w15 => Option.bind (f_X12_emits 9 w15.1 w15.2.1 w15.2.2) fun w16 => f_X12_readPart_120 w15.1 w16.1 w16.2) else (Option.bind (f_X12_isWord 50 w1.1 w1.2) fun v3 => if v3 = true then (f_X12_readPart_113 0 w1.1 w1.2) else (Option.bind (f_X12_isWord 51 w1.1 w1.2) fun v5 => if v5 = true then (f_X12_readPart_113 1 w1.1 w1.2) else (Option.bind (f_X12_isWord 62 w1.1 w1.2) fun v7 => if v7 = true then (f_X12_readPart_113 2 w1.1 w1.2) else (Option.bind (f_X12_isWord 40 w1.1 w1.2) fun v9 => if v9 = true then (f_X12_readPart_113 3 w1.1 w1.2) else (Option.bind (f_X12_isWord 45 w1.1 w1.2) fun v11 => if v11 = true then (f_X12_readPart_113 4 w1.1 w1.2) else (Option.bind (f_X12_isWord 63 w1.1 w1.2) fun v13 => if v13 = true then (f_X12_readPart_113 5 w1.1 w1.2) else (f_X12_readPart_113 ((-1)) w1.1 w1.2)))))))
set_option maxRecDepth 100000 in
theorem S_X12_readPart {g : Gx} (I : MI) (L : ML) (res : Bool × MI × ML) (h : f_X12_readPart I L = some res) : E g 6 0 mX12_readPart 0 [(0, .ref 149)] [] (I, L) (.inl (some (.int (bI res.1)))) (res.2.1, res.2.2) := by
  unfold f_X12_readPart at h
  refine E_aload_n (M := mX12_readPart) 1 rfl dX12_readPart_0 rfl 0 rfl ?_
  replace h := Option.bind_eq_some_iff.mp h
  obtain ⟨w1, hw1, h⟩ := h
  refine E_cV0 (M := mX12_readPart) (As := []) 4 rfl dX12_readPart_1 shc_149 ck_X12_98 cv_X12_letters rfl (by decide) (Nat.le_of_ble_eq_true rfl) (C_X12_letters (g := g) hw1) rfl ?_
  refine E_aload_n (M := mX12_readPart) 5 rfl dX12_readPart_4 rfl 0 rfl ?_
  refine E_gI (M := mX12_readPart) 8 rfl dX12_readPart_5 shc_149 fl_X12_73 rfl ?_
  refine E_aload_n (M := mX12_readPart) 9 rfl dX12_readPart_8 rfl 0 rfl ?_
  refine E_gI (M := mX12_readPart) 12 rfl dX12_readPart_9 shc_149 fl_X12_83 rfl ?_
  refine E_icmp_ne (M := mX12_readPart) 34 15 (by decide) rfl dX12_readPart_12 (fun c2 => ?_) (fun c2 => ?_)
  · rw [if_neg c2] at h
    refine E_aload_n (M := mX12_readPart) 35 rfl dX12_readPart_34 rfl 0 rfl ?_
    refine E_ldcS (M := mX12_readPart) 50 (by decide) 37 rfl dX12_readPart_35 rfl ?_
    replace h := Option.bind_eq_some_iff.mp h
    obtain ⟨v3, hv3, h⟩ := h
    refine E_cV1 (M := mX12_readPart) (As := [.ref (100000 + 50)]) 40 rfl dX12_readPart_37 shc_149 ck_X12_101 cv_X12_isWord rfl (by decide) (Nat.le_of_ble_eq_true rfl) (C_X12_isWord (g := g) (by decide) hv3) rfl ?_
    refine E_if_eqB (M := mX12_readPart) 47 43 (by decide) rfl dX12_readPart_40 (fun c4 => ?_) (fun c4 => ?_)
    · rw [if_neg (by rw [c4]; decide)] at h
      refine E_aload_n (M := mX12_readPart) 48 rfl dX12_readPart_47 rfl 0 rfl ?_
      refine E_ldcS (M := mX12_readPart) 51 (by decide) 50 rfl dX12_readPart_48 rfl ?_
      replace h := Option.bind_eq_some_iff.mp h
      obtain ⟨v5, hv5, h⟩ := h
      refine E_cV1 (M := mX12_readPart) (As := [.ref (100000 + 51)]) 53 rfl dX12_readPart_50 shc_149 ck_X12_101 cv_X12_isWord rfl (by decide) (Nat.le_of_ble_eq_true rfl) (C_X12_isWord (g := g) (by decide) hv5) rfl ?_
      refine E_if_eqB (M := mX12_readPart) 60 56 (by decide) rfl dX12_readPart_53 (fun c6 => ?_) (fun c6 => ?_)
      · rw [if_neg (by rw [c6]; decide)] at h
        refine E_aload_n (M := mX12_readPart) 61 rfl dX12_readPart_60 rfl 0 rfl ?_
        refine E_ldcS (M := mX12_readPart) 62 (by decide) 63 rfl dX12_readPart_61 rfl ?_
        replace h := Option.bind_eq_some_iff.mp h
        obtain ⟨v7, hv7, h⟩ := h
        refine E_cV1 (M := mX12_readPart) (As := [.ref (100000 + 62)]) 66 rfl dX12_readPart_63 shc_149 ck_X12_101 cv_X12_isWord rfl (by decide) (Nat.le_of_ble_eq_true rfl) (C_X12_isWord (g := g) (by decide) hv7) rfl ?_
        refine E_if_eqB (M := mX12_readPart) 73 69 (by decide) rfl dX12_readPart_66 (fun c8 => ?_) (fun c8 => ?_)
        · rw [if_neg (by rw [c8]; decide)] at h
          refine E_aload_n (M := mX12_readPart) 74 rfl dX12_readPart_73 rfl 0 rfl ?_
          refine E_ldcS (M := mX12_readPart) 40 (by decide) 76 rfl dX12_readPart_74 rfl ?_
          replace h := Option.bind_eq_some_iff.mp h
          obtain ⟨v9, hv9, h⟩ := h
          refine E_cV1 (M := mX12_readPart) (As := [.ref (100000 + 40)]) 79 rfl dX12_readPart_76 shc_149 ck_X12_101 cv_X12_isWord rfl (by decide) (Nat.le_of_ble_eq_true rfl) (C_X12_isWord (g := g) (by decide) hv9) rfl ?_
          refine E_if_eqB (M := mX12_readPart) 86 82 (by decide) rfl dX12_readPart_79 (fun c10 => ?_) (fun c10 => ?_)
          · rw [if_neg (by rw [c10]; decide)] at h
            refine E_aload_n (M := mX12_readPart) 87 rfl dX12_readPart_86 rfl 0 rfl ?_
            refine E_ldcS (M := mX12_readPart) 45 (by decide) 89 rfl dX12_readPart_87 rfl ?_
            replace h := Option.bind_eq_some_iff.mp h
            obtain ⟨v11, hv11, h⟩ := h
            refine E_cV1 (M := mX12_readPart) (As := [.ref (100000 + 45)]) 92 rfl dX12_readPart_89 shc_149 ck_X12_101 cv_X12_isWord rfl (by decide) (Nat.le_of_ble_eq_true rfl) (C_X12_isWord (g := g) (by decide) hv11) rfl ?_
            refine E_if_eqB (M := mX12_readPart) 99 95 (by decide) rfl dX12_readPart_92 (fun c12 => ?_) (fun c12 => ?_)
            · rw [if_neg (by rw [c12]; decide)] at h
              refine E_aload_n (M := mX12_readPart) 100 rfl dX12_readPart_99 rfl 0 rfl ?_
              refine E_ldcS (M := mX12_readPart) 63 (by decide) 102 rfl dX12_readPart_100 rfl ?_
              replace h := Option.bind_eq_some_iff.mp h
              obtain ⟨v13, hv13, h⟩ := h
              refine E_cV1 (M := mX12_readPart) (As := [.ref (100000 + 63)]) 105 rfl dX12_readPart_102 shc_149 ck_X12_101 cv_X12_isWord rfl (by decide) (Nat.le_of_ble_eq_true rfl) (C_X12_isWord (g := g) (by decide) hv13) rfl ?_
              refine E_if_eqB (M := mX12_readPart) 112 108 (by decide) rfl dX12_readPart_105 (fun c14 => ?_) (fun c14 => ?_)
              · rw [if_neg (by rw [c14]; decide)] at h
                refine E_iconst (M := mX12_readPart) (v := (-1)) 113 rfl dX12_readPart_112 (by decide) ?_
                refine E_sub (M := mX12_readPart) (lv' := [(0, .ref 149)]) [0] rfl ?_
                exact S_X12_readPart_113 ((-1)) w1.1 w1.2 _ h
              · rw [if_pos c14] at h
                refine E_iconst (M := mX12_readPart) (v := 5) 109 rfl dX12_readPart_108 (by decide) ?_
                refine E_goto (M := mX12_readPart) 113 (by decide) dX12_readPart_109 ?_
                refine E_sub (M := mX12_readPart) (lv' := [(0, .ref 149)]) [0] rfl ?_
                exact S_X12_readPart_113 5 w1.1 w1.2 _ h
            · rw [if_pos c12] at h
              refine E_iconst (M := mX12_readPart) (v := 4) 96 rfl dX12_readPart_95 (by decide) ?_
              refine E_goto (M := mX12_readPart) 113 (by decide) dX12_readPart_96 ?_
              refine E_sub (M := mX12_readPart) (lv' := [(0, .ref 149)]) [0] rfl ?_
              exact S_X12_readPart_113 4 w1.1 w1.2 _ h
          · rw [if_pos c10] at h
            refine E_iconst (M := mX12_readPart) (v := 3) 83 rfl dX12_readPart_82 (by decide) ?_
            refine E_goto (M := mX12_readPart) 113 (by decide) dX12_readPart_83 ?_
            refine E_sub (M := mX12_readPart) (lv' := [(0, .ref 149)]) [0] rfl ?_
            exact S_X12_readPart_113 3 w1.1 w1.2 _ h
        · rw [if_pos c8] at h
          refine E_iconst (M := mX12_readPart) (v := 2) 70 rfl dX12_readPart_69 (by decide) ?_
          refine E_goto (M := mX12_readPart) 113 (by decide) dX12_readPart_70 ?_
          refine E_sub (M := mX12_readPart) (lv' := [(0, .ref 149)]) [0] rfl ?_
          exact S_X12_readPart_113 2 w1.1 w1.2 _ h
      · rw [if_pos c6] at h
        refine E_iconst (M := mX12_readPart) (v := 1) 57 rfl dX12_readPart_56 (by decide) ?_
        refine E_goto (M := mX12_readPart) 113 (by decide) dX12_readPart_57 ?_
        refine E_sub (M := mX12_readPart) (lv' := [(0, .ref 149)]) [0] rfl ?_
        exact S_X12_readPart_113 1 w1.1 w1.2 _ h
    · rw [if_pos c4] at h
      refine E_iconst (M := mX12_readPart) (v := 0) 44 rfl dX12_readPart_43 (by decide) ?_
      refine E_goto (M := mX12_readPart) 113 (by decide) dX12_readPart_44 ?_
      refine E_sub (M := mX12_readPart) (lv' := [(0, .ref 149)]) [0] rfl ?_
      exact S_X12_readPart_113 0 w1.1 w1.2 _ h
  · rw [if_pos c2] at h
    refine E_aload_n (M := mX12_readPart) 16 rfl dX12_readPart_15 rfl 0 rfl ?_
    refine E_iconst (M := mX12_readPart) (v := 0) 17 rfl dX12_readPart_16 (by decide) ?_
    refine E_sipush (M := mX12_readPart) (v := 999) 20 rfl dX12_readPart_17 (by decide) ?_
    replace h := Option.bind_eq_some_iff.mp h
    obtain ⟨w15, hw15, h⟩ := h
    refine E_cV1 (M := mX12_readPart) (As := [.int 0, .int 999]) 23 rfl dX12_readPart_20 shc_149 ck_X12_108 cv_X12_number rfl (by decide) (Nat.le_of_ble_eq_true rfl) (C_X12_number (g := g) hw15) rfl ?_
    refine E_istore_n (M := mX12_readPart) (lv' := [(1, .int w15.1), (0, .ref 149)]) 24 rfl dX12_readPart_23 rfl (Nat.le_of_ble_eq_true rfl) rfl ?_
    refine E_aload_n (M := mX12_readPart) 25 rfl dX12_readPart_24 rfl 1 rfl ?_
    refine E_bipush (M := mX12_readPart) (v := 9) 27 rfl dX12_readPart_25 (by decide) ?_
    refine E_iload_n (M := mX12_readPart) 28 rfl dX12_readPart_27 rfl 0 rfl ?_
    replace h := Option.bind_eq_some_iff.mp h
    obtain ⟨w16, hw16, h⟩ := h
    refine E_cV0 (M := mX12_readPart) (As := [.int 9, .int w15.1]) 31 rfl dX12_readPart_28 shc_149 ck_X12_174 cv_X12_emits rfl (by decide) (Nat.le_of_ble_eq_true rfl) (C_X12_emits (g := g) hw16) rfl ?_
    refine E_goto (M := mX12_readPart) 120 (by decide) dX12_readPart_31 ?_
    refine E_sub (M := mX12_readPart) (lv' := [(1, .int w15.1)]) [0] rfl ?_
    exact S_X12_readPart_120 w15.1 w16.1 w16.2 _ h
theorem C_X12_readPart {g : Gx} {I : MI} {L : ML} {res : Bool × MI × ML} (h : f_X12_readPart I L = some res) : Ent g 6 0 mX12_readPart [.ref 149] (I, L) (.inl (some (.int (bI res.1)))) (res.2.1, res.2.2) := Ent_of (by decide +kernel) (Nat.le_of_ble_eq_true rfl) (S_X12_readPart I L _ h)
def f_X12_readSum_9 : Nat → MI → ML → Option (Bool × MI × ML)
  | 0, _, _ => none
  | n + 1, I, L => Option.bind (f_X12_sign 43 I L) fun w1 => if w1.1 = true then (Option.bind (f_X12_readPart w1.2.1 w1.2.2) fun w3 => if w3.1 = true then (Option.bind (f_X12_emits 10 0 w3.2.1 w3.2.2) fun w5 => f_X12_readSum_9 n w5.1 w5.2) else (some (false, w3.2.1, w3.2.2))) else (some (true, w1.2.1, w1.2.2))
set_option maxRecDepth 100000 in
theorem S_X12_readSum_9 {g : Gx} : ∀ (n : Nat) (I : MI) (L : ML) (res : Bool × MI × ML), f_X12_readSum_9 n I L = some res → E g 7 0 mX12_readSum 9 [(0, .ref 149)] [] (I, L) (.inl (some (.int (bI res.1)))) (res.2.1, res.2.2) := by
  intro n
  induction n with
  | zero =>
    intros
    rename_i h
    cases h
  | succ n ih =>
    intro I L res h
    rw [f_X12_readSum_9] at h
    refine E_aload_n (M := mX12_readSum) 10 rfl dX12_readSum_9 rfl 0 rfl ?_
    refine E_bipush (M := mX12_readSum) (v := 43) 12 rfl dX12_readSum_10 (by decide) ?_
    replace h := Option.bind_eq_some_iff.mp h
    obtain ⟨w1, hw1, h⟩ := h
    refine E_cV1 (M := mX12_readSum) (As := [.int 43]) 15 rfl dX12_readSum_12 shc_149 ck_X12_185 cv_X12_sign rfl (by decide) (Nat.le_of_ble_eq_true rfl) (C_X12_sign (g := g) hw1) rfl ?_
    refine E_if_eqB (M := mX12_readSum) 37 18 (by decide) rfl dX12_readSum_15 (fun c2 => ?_) (fun c2 => ?_)
    · rw [if_neg (by rw [c2]; decide)] at h
      refine E_iconst (M := mX12_readSum) (v := 1) 38 rfl dX12_readSum_37 (by decide) ?_
      cases h
      exact E_zret (M := mX12_readSum) (x := true) rfl dX12_readSum_38
    · rw [if_pos c2] at h
      refine E_aload_n (M := mX12_readSum) 19 rfl dX12_readSum_18 rfl 0 rfl ?_
      replace h := Option.bind_eq_some_iff.mp h
      obtain ⟨w3, hw3, h⟩ := h
      refine E_cV1 (M := mX12_readSum) (As := []) 22 rfl dX12_readSum_19 shc_149 ck_X12_182 cv_X12_readPart rfl (by decide) (Nat.le_of_ble_eq_true rfl) (C_X12_readPart (g := g) hw3) rfl ?_
      refine E_if_neB (M := mX12_readSum) 27 25 (by decide) rfl dX12_readSum_22 (fun c4 => ?_) (fun c4 => ?_)
      · rw [if_pos c4] at h
        refine E_aload_n (M := mX12_readSum) 28 rfl dX12_readSum_27 rfl 0 rfl ?_
        refine E_bipush (M := mX12_readSum) (v := 10) 30 rfl dX12_readSum_28 (by decide) ?_
        refine E_iconst (M := mX12_readSum) (v := 0) 31 rfl dX12_readSum_30 (by decide) ?_
        replace h := Option.bind_eq_some_iff.mp h
        obtain ⟨w5, hw5, h⟩ := h
        refine E_cV0 (M := mX12_readSum) (As := [.int 10, .int 0]) 34 rfl dX12_readSum_31 shc_149 ck_X12_174 cv_X12_emits rfl (by decide) (Nat.le_of_ble_eq_true rfl) (C_X12_emits (g := g) hw5) rfl ?_
        refine E_goto (M := mX12_readSum) 9 (by decide) dX12_readSum_34 ?_
        refine E_sub (M := mX12_readSum) (lv' := [(0, .ref 149)]) [0] rfl ?_
        exact ih w5.1 w5.2 _ h
      · rw [if_neg (by rw [c4]; decide)] at h
        refine E_iconst (M := mX12_readSum) (v := 0) 26 rfl dX12_readSum_25 (by decide) ?_
        cases h
        exact E_zret (M := mX12_readSum) (x := false) rfl dX12_readSum_26
def f_X12_readSum (I : MI) (L : ML) : Option (Bool × MI × ML) := Option.bind (f_X12_readPart I L) fun w1 => if w1.1 = true then (f_X12_readSum_9 FU w1.2.1 w1.2.2) else (some (false, w1.2.1, w1.2.2))
set_option maxRecDepth 100000 in
theorem S_X12_readSum {g : Gx} (I : MI) (L : ML) (res : Bool × MI × ML) (h : f_X12_readSum I L = some res) : E g 7 0 mX12_readSum 0 [(0, .ref 149)] [] (I, L) (.inl (some (.int (bI res.1)))) (res.2.1, res.2.2) := by
  unfold f_X12_readSum at h
  refine E_aload_n (M := mX12_readSum) 1 rfl dX12_readSum_0 rfl 0 rfl ?_
  replace h := Option.bind_eq_some_iff.mp h
  obtain ⟨w1, hw1, h⟩ := h
  refine E_cV1 (M := mX12_readSum) (As := []) 4 rfl dX12_readSum_1 shc_149 ck_X12_182 cv_X12_readPart rfl (by decide) (Nat.le_of_ble_eq_true rfl) (C_X12_readPart (g := g) hw1) rfl ?_
  refine E_if_neB (M := mX12_readSum) 9 7 (by decide) rfl dX12_readSum_4 (fun c2 => ?_) (fun c2 => ?_)
  · rw [if_pos c2] at h
    refine E_sub (M := mX12_readSum) (lv' := [(0, .ref 149)]) [0] rfl ?_
    exact S_X12_readSum_9 FU w1.2.1 w1.2.2 _ h
  · rw [if_neg (by rw [c2]; decide)] at h
    refine E_iconst (M := mX12_readSum) (v := 0) 8 rfl dX12_readSum_7 (by decide) ?_
    cases h
    exact E_zret (M := mX12_readSum) (x := false) rfl dX12_readSum_8
theorem C_X12_readSum {g : Gx} {I : MI} {L : ML} {res : Bool × MI × ML} (h : f_X12_readSum I L = some res) : Ent g 7 0 mX12_readSum [.ref 149] (I, L) (.inl (some (.int (bI res.1)))) (res.2.1, res.2.2) := Ent_of (by decide +kernel) (Nat.le_of_ble_eq_true rfl) (S_X12_readSum I L _ h)
def f_X12_readTag_127 (y0 : Bool) (I : MI) (L : ML) : Option (Bool × MI × ML) := some (y0, I, L)
set_option maxRecDepth 100000 in
theorem S_X12_readTag_127 {g : Gx} (y0 : Bool) (I : MI) (L : ML) (res : Bool × MI × ML) (h : f_X12_readTag_127 y0 I L = some res) : E g 6 0 mX12_readTag 127 [] [.int (bI y0)] (I, L) (.inl (some (.int (bI res.1)))) (res.2.1, res.2.2) := by
  unfold f_X12_readTag_127 at h
  cases h
  exact E_zret (M := mX12_readTag) (x := y0) rfl dX12_readTag_127
def f_X12_readTag_118 (x2 : Int32) (I : MI) (L : ML) : Option (Bool × MI × ML) := if x2 < 0 then (f_X12_readTag_127 false I L) else (f_X12_readTag_127 true I L)
set_option maxRecDepth 100000 in
theorem S_X12_readTag_118 {g : Gx} (x2 : Int32) (I : MI) (L : ML) (res : Bool × MI × ML) (h : f_X12_readTag_118 x2 I L = some res) : E g 6 0 mX12_readTag 118 [(2, .int x2)] [] (I, L) (.inl (some (.int (bI res.1)))) (res.2.1, res.2.2) := by
  unfold f_X12_readTag_118 at h
  refine E_iload_n (M := mX12_readTag) 119 rfl dX12_readTag_118 rfl 0 rfl ?_
  refine E_if_lt (M := mX12_readTag) 126 122 (by decide) rfl dX12_readTag_119 (fun c1 => ?_) (fun c1 => ?_)
  · rw [if_pos c1] at h
    refine E_iconst (M := mX12_readTag) (v := 0) 127 rfl dX12_readTag_126 (by decide) ?_
    refine E_sub (M := mX12_readTag) (lv' := []) [] rfl ?_
    exact S_X12_readTag_127 false I L _ h
  · rw [if_neg c1] at h
    refine E_iconst (M := mX12_readTag) (v := 1) 123 rfl dX12_readTag_122 (by decide) ?_
    refine E_goto (M := mX12_readTag) 127 (by decide) dX12_readTag_123 ?_
    refine E_sub (M := mX12_readTag) (lv' := []) [] rfl ?_
    exact S_X12_readTag_127 true I L _ h
def f_X12_readTag_96 (x1 : Int32) (y0 : Int32) (I : MI) (L : ML) : Option (Bool × MI × ML) := if y0 < 0 then (Option.bind (pfI I 149 9 (I 149 11)) fun I2 => f_X12_readTag_118 y0 I2 L) else (Option.bind (f_X12_emits y0 x1 I L) fun w3 => f_X12_readTag_118 y0 w3.1 w3.2)
set_option maxRecDepth 100000 in
theorem S_X12_readTag_96 {g : Gx} (x1 : Int32) (y0 : Int32) (I : MI) (L : ML) (res : Bool × MI × ML) (h : f_X12_readTag_96 x1 y0 I L = some res) : E g 6 0 mX12_readTag 96 [(0, .ref 149), (1, .int x1)] [.int y0] (I, L) (.inl (some (.int (bI res.1)))) (res.2.1, res.2.2) := by
  unfold f_X12_readTag_96 at h
  refine E_istore_n (M := mX12_readTag) (lv' := [(2, .int y0), (0, .ref 149), (1, .int x1)]) 97 rfl dX12_readTag_96 rfl (Nat.le_of_ble_eq_true rfl) rfl ?_
  refine E_iload_n (M := mX12_readTag) 98 rfl dX12_readTag_97 rfl 0 rfl ?_
  refine E_if_lt (M := mX12_readTag) 110 101 (by decide) rfl dX12_readTag_98 (fun c1 => ?_) (fun c1 => ?_)
  · rw [if_pos c1] at h
    refine E_aload_n (M := mX12_readTag) 111 rfl dX12_readTag_110 rfl 1 rfl ?_
    refine E_aload_n (M := mX12_readTag) 112 rfl dX12_readTag_111 rfl 1 rfl ?_
    refine E_gI (M := mX12_readTag) 115 rfl dX12_readTag_112 shc_149 fl_X12_83 rfl ?_
    replace h := Option.bind_eq_some_iff.mp h
    obtain ⟨I2, hI2, h⟩ := h
    refine E_pfI (M := mX12_readTag) 118 rfl dX12_readTag_115 shc_149 fl_X12_73 rfl hI2 ?_
    refine E_sub (M := mX12_readTag) (lv' := [(2, .int y0)]) [0] rfl ?_
    exact S_X12_readTag_118 y0 I2 L _ h
  · rw [if_neg c1] at h
    refine E_aload_n (M := mX12_readTag) 102 rfl dX12_readTag_101 rfl 1 rfl ?_
    refine E_iload_n (M := mX12_readTag) 103 rfl dX12_readTag_102 rfl 0 rfl ?_
    refine E_iload_n (M := mX12_readTag) 104 rfl dX12_readTag_103 rfl 2 rfl ?_
    replace h := Option.bind_eq_some_iff.mp h
    obtain ⟨w3, hw3, h⟩ := h
    refine E_cV0 (M := mX12_readTag) (As := [.int y0, .int x1]) 107 rfl dX12_readTag_104 shc_149 ck_X12_174 cv_X12_emits rfl (by decide) (Nat.le_of_ble_eq_true rfl) (C_X12_emits (g := g) hw3) rfl ?_
    refine E_goto (M := mX12_readTag) 118 (by decide) dX12_readTag_107 ?_
    refine E_sub (M := mX12_readTag) (lv' := [(2, .int y0)]) [0] rfl ?_
    exact S_X12_readTag_118 y0 w3.1 w3.2 _ h
def f_X12_readTag_57 (y0 : Int32) (I : MI) (L : ML) : Option (Bool × MI × ML) := if y0 < 0 then (Option.bind (f_X12_isWord 60 I L) fun v2 => if v2 = true then (f_X12_readTag_96 y0 7 I L) else (Option.bind (f_X12_isWord 61 I L) fun v4 => if v4 = true then (f_X12_readTag_96 y0 8 I L) else (f_X12_readTag_96 y0 ((-1)) I L))) else (f_X12_readTag_96 y0 6 I L)
set_option maxRecDepth 100000 in
theorem S_X12_readTag_57 {g : Gx} (y0 : Int32) (I : MI) (L : ML) (res : Bool × MI × ML) (h : f_X12_readTag_57 y0 I L = some res) : E g 6 0 mX12_readTag 57 [(0, .ref 149)] [.int y0] (I, L) (.inl (some (.int (bI res.1)))) (res.2.1, res.2.2) := by
  unfold f_X12_readTag_57 at h
  refine E_istore_n (M := mX12_readTag) (lv' := [(1, .int y0), (0, .ref 149)]) 58 rfl dX12_readTag_57 rfl (Nat.le_of_ble_eq_true rfl) rfl ?_
  refine E_iload_n (M := mX12_readTag) 59 rfl dX12_readTag_58 rfl 0 rfl ?_
  refine E_if_lt (M := mX12_readTag) 67 62 (by decide) rfl dX12_readTag_59 (fun c1 => ?_) (fun c1 => ?_)
  · rw [if_pos c1] at h
    refine E_aload_n (M := mX12_readTag) 68 rfl dX12_readTag_67 rfl 1 rfl ?_
    refine E_ldcS (M := mX12_readTag) 60 (by decide) 70 rfl dX12_readTag_68 rfl ?_
    replace h := Option.bind_eq_some_iff.mp h
    obtain ⟨v2, hv2, h⟩ := h
    refine E_cV1 (M := mX12_readTag) (As := [.ref (100000 + 60)]) 73 rfl dX12_readTag_70 shc_149 ck_X12_101 cv_X12_isWord rfl (by decide) (Nat.le_of_ble_eq_true rfl) (C_X12_isWord (g := g) (by decide) hv2) rfl ?_
    refine E_if_eqB (M := mX12_readTag) 81 76 (by decide) rfl dX12_readTag_73 (fun c3 => ?_) (fun c3 => ?_)
    · rw [if_neg (by rw [c3]; decide)] at h
      refine E_aload_n (M := mX12_readTag) 82 rfl dX12_readTag_81 rfl 1 rfl ?_
      refine E_ldcS (M := mX12_readTag) 61 (by decide) 84 rfl dX12_readTag_82 rfl ?_
      replace h := Option.bind_eq_some_iff.mp h
      obtain ⟨v4, hv4, h⟩ := h
      refine E_cV1 (M := mX12_readTag) (As := [.ref (100000 + 61)]) 87 rfl dX12_readTag_84 shc_149 ck_X12_101 cv_X12_isWord rfl (by decide) (Nat.le_of_ble_eq_true rfl) (C_X12_isWord (g := g) (by decide) hv4) rfl ?_
      refine E_if_eqB (M := mX12_readTag) 95 90 (by decide) rfl dX12_readTag_87 (fun c5 => ?_) (fun c5 => ?_)
      · rw [if_neg (by rw [c5]; decide)] at h
        refine E_iconst (M := mX12_readTag) (v := (-1)) 96 rfl dX12_readTag_95 (by decide) ?_
        refine E_sub (M := mX12_readTag) (lv' := [(0, .ref 149), (1, .int y0)]) [1, 0] rfl ?_
        exact S_X12_readTag_96 y0 ((-1)) I L _ h
      · rw [if_pos c5] at h
        refine E_bipush (M := mX12_readTag) (v := 8) 92 rfl dX12_readTag_90 (by decide) ?_
        refine E_goto (M := mX12_readTag) 96 (by decide) dX12_readTag_92 ?_
        refine E_sub (M := mX12_readTag) (lv' := [(0, .ref 149), (1, .int y0)]) [1, 0] rfl ?_
        exact S_X12_readTag_96 y0 8 I L _ h
    · rw [if_pos c3] at h
      refine E_bipush (M := mX12_readTag) (v := 7) 78 rfl dX12_readTag_76 (by decide) ?_
      refine E_goto (M := mX12_readTag) 96 (by decide) dX12_readTag_78 ?_
      refine E_sub (M := mX12_readTag) (lv' := [(0, .ref 149), (1, .int y0)]) [1, 0] rfl ?_
      exact S_X12_readTag_96 y0 7 I L _ h
  · rw [if_neg c1] at h
    refine E_bipush (M := mX12_readTag) (v := 6) 64 rfl dX12_readTag_62 (by decide) ?_
    refine E_goto (M := mX12_readTag) 96 (by decide) dX12_readTag_64 ?_
    refine E_sub (M := mX12_readTag) (lv' := [(0, .ref 149), (1, .int y0)]) [1, 0] rfl ?_
    exact S_X12_readTag_96 y0 6 I L _ h
def f_X12_readTag (I : MI) (L : ML) : Option (Bool × MI × ML) := Option.bind (f_X12_letters I L) fun w1 => Option.bind (f_X12_isWord 46 w1.1 w1.2) fun v2 => if v2 = true then (f_X12_readTag_57 0 w1.1 w1.2) else (Option.bind (f_X12_isWord 47 w1.1 w1.2) fun v4 => if v4 = true then (f_X12_readTag_57 1 w1.1 w1.2) else (Option.bind (f_X12_isWord 48 w1.1 w1.2) fun v6 => if v6 = true then (f_X12_readTag_57 2 w1.1 w1.2) else (Option.bind (f_X12_isWord 49 w1.1 w1.2) fun v8 => if v8 = true then (f_X12_readTag_57 3 w1.1 w1.2) else (f_X12_readTag_57 ((-1)) w1.1 w1.2))))
set_option maxRecDepth 100000 in
theorem S_X12_readTag {g : Gx} (I : MI) (L : ML) (res : Bool × MI × ML) (h : f_X12_readTag I L = some res) : E g 6 0 mX12_readTag 0 [(0, .ref 149)] [] (I, L) (.inl (some (.int (bI res.1)))) (res.2.1, res.2.2) := by
  unfold f_X12_readTag at h
  refine E_aload_n (M := mX12_readTag) 1 rfl dX12_readTag_0 rfl 0 rfl ?_
  replace h := Option.bind_eq_some_iff.mp h
  obtain ⟨w1, hw1, h⟩ := h
  refine E_cV0 (M := mX12_readTag) (As := []) 4 rfl dX12_readTag_1 shc_149 ck_X12_98 cv_X12_letters rfl (by decide) (Nat.le_of_ble_eq_true rfl) (C_X12_letters (g := g) hw1) rfl ?_
  refine E_aload_n (M := mX12_readTag) 5 rfl dX12_readTag_4 rfl 0 rfl ?_
  refine E_ldcS (M := mX12_readTag) 46 (by decide) 7 rfl dX12_readTag_5 rfl ?_
  replace h := Option.bind_eq_some_iff.mp h
  obtain ⟨v2, hv2, h⟩ := h
  refine E_cV1 (M := mX12_readTag) (As := [.ref (100000 + 46)]) 10 rfl dX12_readTag_7 shc_149 ck_X12_101 cv_X12_isWord rfl (by decide) (Nat.le_of_ble_eq_true rfl) (C_X12_isWord (g := g) (by decide) hv2) rfl ?_
  refine E_if_eqB (M := mX12_readTag) 17 13 (by decide) rfl dX12_readTag_10 (fun c3 => ?_) (fun c3 => ?_)
  · rw [if_neg (by rw [c3]; decide)] at h
    refine E_aload_n (M := mX12_readTag) 18 rfl dX12_readTag_17 rfl 0 rfl ?_
    refine E_ldcS (M := mX12_readTag) 47 (by decide) 20 rfl dX12_readTag_18 rfl ?_
    replace h := Option.bind_eq_some_iff.mp h
    obtain ⟨v4, hv4, h⟩ := h
    refine E_cV1 (M := mX12_readTag) (As := [.ref (100000 + 47)]) 23 rfl dX12_readTag_20 shc_149 ck_X12_101 cv_X12_isWord rfl (by decide) (Nat.le_of_ble_eq_true rfl) (C_X12_isWord (g := g) (by decide) hv4) rfl ?_
    refine E_if_eqB (M := mX12_readTag) 30 26 (by decide) rfl dX12_readTag_23 (fun c5 => ?_) (fun c5 => ?_)
    · rw [if_neg (by rw [c5]; decide)] at h
      refine E_aload_n (M := mX12_readTag) 31 rfl dX12_readTag_30 rfl 0 rfl ?_
      refine E_ldcS (M := mX12_readTag) 48 (by decide) 33 rfl dX12_readTag_31 rfl ?_
      replace h := Option.bind_eq_some_iff.mp h
      obtain ⟨v6, hv6, h⟩ := h
      refine E_cV1 (M := mX12_readTag) (As := [.ref (100000 + 48)]) 36 rfl dX12_readTag_33 shc_149 ck_X12_101 cv_X12_isWord rfl (by decide) (Nat.le_of_ble_eq_true rfl) (C_X12_isWord (g := g) (by decide) hv6) rfl ?_
      refine E_if_eqB (M := mX12_readTag) 43 39 (by decide) rfl dX12_readTag_36 (fun c7 => ?_) (fun c7 => ?_)
      · rw [if_neg (by rw [c7]; decide)] at h
        refine E_aload_n (M := mX12_readTag) 44 rfl dX12_readTag_43 rfl 0 rfl ?_
        refine E_ldcS (M := mX12_readTag) 49 (by decide) 46 rfl dX12_readTag_44 rfl ?_
        replace h := Option.bind_eq_some_iff.mp h
        obtain ⟨v8, hv8, h⟩ := h
        refine E_cV1 (M := mX12_readTag) (As := [.ref (100000 + 49)]) 49 rfl dX12_readTag_46 shc_149 ck_X12_101 cv_X12_isWord rfl (by decide) (Nat.le_of_ble_eq_true rfl) (C_X12_isWord (g := g) (by decide) hv8) rfl ?_
        refine E_if_eqB (M := mX12_readTag) 56 52 (by decide) rfl dX12_readTag_49 (fun c9 => ?_) (fun c9 => ?_)
        · rw [if_neg (by rw [c9]; decide)] at h
          refine E_iconst (M := mX12_readTag) (v := (-1)) 57 rfl dX12_readTag_56 (by decide) ?_
          refine E_sub (M := mX12_readTag) (lv' := [(0, .ref 149)]) [0] rfl ?_
          exact S_X12_readTag_57 ((-1)) w1.1 w1.2 _ h
        · rw [if_pos c9] at h
          refine E_iconst (M := mX12_readTag) (v := 3) 53 rfl dX12_readTag_52 (by decide) ?_
          refine E_goto (M := mX12_readTag) 57 (by decide) dX12_readTag_53 ?_
          refine E_sub (M := mX12_readTag) (lv' := [(0, .ref 149)]) [0] rfl ?_
          exact S_X12_readTag_57 3 w1.1 w1.2 _ h
      · rw [if_pos c7] at h
        refine E_iconst (M := mX12_readTag) (v := 2) 40 rfl dX12_readTag_39 (by decide) ?_
        refine E_goto (M := mX12_readTag) 57 (by decide) dX12_readTag_40 ?_
        refine E_sub (M := mX12_readTag) (lv' := [(0, .ref 149)]) [0] rfl ?_
        exact S_X12_readTag_57 2 w1.1 w1.2 _ h
    · rw [if_pos c5] at h
      refine E_iconst (M := mX12_readTag) (v := 1) 27 rfl dX12_readTag_26 (by decide) ?_
      refine E_goto (M := mX12_readTag) 57 (by decide) dX12_readTag_27 ?_
      refine E_sub (M := mX12_readTag) (lv' := [(0, .ref 149)]) [0] rfl ?_
      exact S_X12_readTag_57 1 w1.1 w1.2 _ h
  · rw [if_pos c3] at h
    refine E_iconst (M := mX12_readTag) (v := 0) 14 rfl dX12_readTag_13 (by decide) ?_
    refine E_goto (M := mX12_readTag) 57 (by decide) dX12_readTag_14 ?_
    refine E_sub (M := mX12_readTag) (lv' := [(0, .ref 149)]) [0] rfl ?_
    exact S_X12_readTag_57 0 w1.1 w1.2 _ h
theorem C_X12_readTag {g : Gx} {I : MI} {L : ML} {res : Bool × MI × ML} (h : f_X12_readTag I L = some res) : Ent g 6 0 mX12_readTag [.ref 149] (I, L) (.inl (some (.int (bI res.1)))) (res.2.1, res.2.2) := Ent_of (by decide +kernel) (Nat.le_of_ble_eq_true rfl) (S_X12_readTag I L _ h)
def f_X12_readCond_9 (r_X12_readCond : MI → ML → Option (Bool × MI × ML)) (r_X12_readAllOf : MI → ML → Option (Bool × MI × ML)) (r_X12_readAtom : MI → ML → Option (Bool × MI × ML)) : Nat → MI → ML → Option (Bool × MI × ML)
  | 0, _, _ => none
  | n + 1, I, L => Option.bind (f_X12_passes 65 I L) fun w1 => if w1.1 = true then (Option.bind (r_X12_readAllOf w1.2.1 w1.2.2) fun w3 => if w3.1 = true then (Option.bind (f_X12_emits 15 0 w3.2.1 w3.2.2) fun w5 => f_X12_readCond_9 r_X12_readCond r_X12_readAllOf r_X12_readAtom n w5.1 w5.2) else (some (false, w3.2.1, w3.2.2))) else (some (true, w1.2.1, w1.2.2))
set_option maxRecDepth 100000 in
theorem S_X12_readCond_9 {g : Gx} {D : Nat} {r_X12_readCond : MI → ML → Option (Bool × MI × ML)} {r_X12_readAllOf : MI → ML → Option (Bool × MI × ML)} {r_X12_readAtom : MI → ML → Option (Bool × MI × ML)} (hD : 7 ≤ D) (hr_X12_readCond : ∀ {I : MI} {L : ML} {res : Bool × MI × ML}, r_X12_readCond I L = some res → Ent g D 0 mX12_readCond [.ref 149] (I, L) (.inl (some (.int (bI res.1)))) (res.2.1, res.2.2)) (hr_X12_readAllOf : ∀ {I : MI} {L : ML} {res : Bool × MI × ML}, r_X12_readAllOf I L = some res → Ent g D 0 mX12_readAllOf [.ref 149] (I, L) (.inl (some (.int (bI res.1)))) (res.2.1, res.2.2)) (hr_X12_readAtom : ∀ {I : MI} {L : ML} {res : Bool × MI × ML}, r_X12_readAtom I L = some res → Ent g D 0 mX12_readAtom [.ref 149] (I, L) (.inl (some (.int (bI res.1)))) (res.2.1, res.2.2)) : ∀ (n : Nat) (I : MI) (L : ML) (res : Bool × MI × ML), f_X12_readCond_9 r_X12_readCond r_X12_readAllOf r_X12_readAtom n I L = some res → E g (D + 1) 0 mX12_readCond 9 [(0, .ref 149)] [] (I, L) (.inl (some (.int (bI res.1)))) (res.2.1, res.2.2) := by
  intro n
  induction n with
  | zero =>
    intros
    rename_i h
    cases h
  | succ n ih =>
    intro I L res h
    rw [f_X12_readCond_9] at h
    refine E_aload_n (M := mX12_readCond) 10 rfl dX12_readCond_9 rfl 0 rfl ?_
    refine E_ldcS (M := mX12_readCond) 65 (by decide) 12 rfl dX12_readCond_10 rfl ?_
    replace h := Option.bind_eq_some_iff.mp h
    obtain ⟨w1, hw1, h⟩ := h
    refine E_cV1 (M := mX12_readCond) (As := [.ref (100000 + 65)]) 15 rfl dX12_readCond_12 shc_149 ck_X12_201 cv_X12_passes rfl (by omega) (Nat.le_of_ble_eq_true rfl) (C_X12_passes (g := g) (by decide) hw1) rfl ?_
    refine E_if_eqB (M := mX12_readCond) 37 18 (by decide) rfl dX12_readCond_15 (fun c2 => ?_) (fun c2 => ?_)
    · rw [if_neg (by rw [c2]; decide)] at h
      refine E_iconst (M := mX12_readCond) (v := 1) 38 rfl dX12_readCond_37 (by decide) ?_
      cases h
      exact E_zret (M := mX12_readCond) (x := true) rfl dX12_readCond_38
    · rw [if_pos c2] at h
      refine E_aload_n (M := mX12_readCond) 19 rfl dX12_readCond_18 rfl 0 rfl ?_
      replace h := Option.bind_eq_some_iff.mp h
      obtain ⟨w3, hw3, h⟩ := h
      refine E_cV1 (M := mX12_readCond) (As := []) 22 rfl dX12_readCond_19 shc_149 ck_X12_215 cv_X12_readAllOf rfl (by omega) (Nat.le_of_ble_eq_true rfl) (hr_X12_readAllOf hw3) rfl ?_
      refine E_if_neB (M := mX12_readCond) 27 25 (by decide) rfl dX12_readCond_22 (fun c4 => ?_) (fun c4 => ?_)
      · rw [if_pos c4] at h
        refine E_aload_n (M := mX12_readCond) 28 rfl dX12_readCond_27 rfl 0 rfl ?_
        refine E_bipush (M := mX12_readCond) (v := 15) 30 rfl dX12_readCond_28 (by decide) ?_
        refine E_iconst (M := mX12_readCond) (v := 0) 31 rfl dX12_readCond_30 (by decide) ?_
        replace h := Option.bind_eq_some_iff.mp h
        obtain ⟨w5, hw5, h⟩ := h
        refine E_cV0 (M := mX12_readCond) (As := [.int 15, .int 0]) 34 rfl dX12_readCond_31 shc_149 ck_X12_174 cv_X12_emits rfl (by omega) (Nat.le_of_ble_eq_true rfl) (C_X12_emits (g := g) hw5) rfl ?_
        refine E_goto (M := mX12_readCond) 9 (by decide) dX12_readCond_34 ?_
        refine E_sub (M := mX12_readCond) (lv' := [(0, .ref 149)]) [0] rfl ?_
        exact ih w5.1 w5.2 _ h
      · rw [if_neg (by rw [c4]; decide)] at h
        refine E_iconst (M := mX12_readCond) (v := 0) 26 rfl dX12_readCond_25 (by decide) ?_
        cases h
        exact E_zret (M := mX12_readCond) (x := false) rfl dX12_readCond_26
def F_X12_readCond (r_X12_readCond : MI → ML → Option (Bool × MI × ML)) (r_X12_readAllOf : MI → ML → Option (Bool × MI × ML)) (r_X12_readAtom : MI → ML → Option (Bool × MI × ML)) (I : MI) (L : ML) : Option (Bool × MI × ML) := Option.bind (r_X12_readAllOf I L) fun w1 => if w1.1 = true then (f_X12_readCond_9 r_X12_readCond r_X12_readAllOf r_X12_readAtom FU w1.2.1 w1.2.2) else (some (false, w1.2.1, w1.2.2))
set_option maxRecDepth 100000 in
theorem S_X12_readCond {g : Gx} {D : Nat} {r_X12_readCond : MI → ML → Option (Bool × MI × ML)} {r_X12_readAllOf : MI → ML → Option (Bool × MI × ML)} {r_X12_readAtom : MI → ML → Option (Bool × MI × ML)} (hD : 7 ≤ D) (hr_X12_readCond : ∀ {I : MI} {L : ML} {res : Bool × MI × ML}, r_X12_readCond I L = some res → Ent g D 0 mX12_readCond [.ref 149] (I, L) (.inl (some (.int (bI res.1)))) (res.2.1, res.2.2)) (hr_X12_readAllOf : ∀ {I : MI} {L : ML} {res : Bool × MI × ML}, r_X12_readAllOf I L = some res → Ent g D 0 mX12_readAllOf [.ref 149] (I, L) (.inl (some (.int (bI res.1)))) (res.2.1, res.2.2)) (hr_X12_readAtom : ∀ {I : MI} {L : ML} {res : Bool × MI × ML}, r_X12_readAtom I L = some res → Ent g D 0 mX12_readAtom [.ref 149] (I, L) (.inl (some (.int (bI res.1)))) (res.2.1, res.2.2)) (I : MI) (L : ML) (res : Bool × MI × ML) (h : F_X12_readCond r_X12_readCond r_X12_readAllOf r_X12_readAtom I L = some res) : E g (D + 1) 0 mX12_readCond 0 [(0, .ref 149)] [] (I, L) (.inl (some (.int (bI res.1)))) (res.2.1, res.2.2) := by
  unfold F_X12_readCond at h
  refine E_aload_n (M := mX12_readCond) 1 rfl dX12_readCond_0 rfl 0 rfl ?_
  replace h := Option.bind_eq_some_iff.mp h
  obtain ⟨w1, hw1, h⟩ := h
  refine E_cV1 (M := mX12_readCond) (As := []) 4 rfl dX12_readCond_1 shc_149 ck_X12_215 cv_X12_readAllOf rfl (by omega) (Nat.le_of_ble_eq_true rfl) (hr_X12_readAllOf hw1) rfl ?_
  refine E_if_neB (M := mX12_readCond) 9 7 (by decide) rfl dX12_readCond_4 (fun c2 => ?_) (fun c2 => ?_)
  · rw [if_pos c2] at h
    refine E_sub (M := mX12_readCond) (lv' := [(0, .ref 149)]) [0] rfl ?_
    exact S_X12_readCond_9 hD hr_X12_readCond hr_X12_readAllOf hr_X12_readAtom FU w1.2.1 w1.2.2 _ h
  · rw [if_neg (by rw [c2]; decide)] at h
    refine E_iconst (M := mX12_readCond) (v := 0) 8 rfl dX12_readCond_7 (by decide) ?_
    cases h
    exact E_zret (M := mX12_readCond) (x := false) rfl dX12_readCond_8
def f_X12_readAllOf_9 (r_X12_readCond : MI → ML → Option (Bool × MI × ML)) (r_X12_readAllOf : MI → ML → Option (Bool × MI × ML)) (r_X12_readAtom : MI → ML → Option (Bool × MI × ML)) : Nat → MI → ML → Option (Bool × MI × ML)
  | 0, _, _ => none
  | n + 1, I, L => Option.bind (f_X12_passes 64 I L) fun w1 => if w1.1 = true then (Option.bind (r_X12_readAtom w1.2.1 w1.2.2) fun w3 => if w3.1 = true then (Option.bind (f_X12_emits 14 0 w3.2.1 w3.2.2) fun w5 => f_X12_readAllOf_9 r_X12_readCond r_X12_readAllOf r_X12_readAtom n w5.1 w5.2) else (some (false, w3.2.1, w3.2.2))) else (some (true, w1.2.1, w1.2.2))
set_option maxRecDepth 100000 in
theorem S_X12_readAllOf_9 {g : Gx} {D : Nat} {r_X12_readCond : MI → ML → Option (Bool × MI × ML)} {r_X12_readAllOf : MI → ML → Option (Bool × MI × ML)} {r_X12_readAtom : MI → ML → Option (Bool × MI × ML)} (hD : 7 ≤ D) (hr_X12_readCond : ∀ {I : MI} {L : ML} {res : Bool × MI × ML}, r_X12_readCond I L = some res → Ent g D 0 mX12_readCond [.ref 149] (I, L) (.inl (some (.int (bI res.1)))) (res.2.1, res.2.2)) (hr_X12_readAllOf : ∀ {I : MI} {L : ML} {res : Bool × MI × ML}, r_X12_readAllOf I L = some res → Ent g D 0 mX12_readAllOf [.ref 149] (I, L) (.inl (some (.int (bI res.1)))) (res.2.1, res.2.2)) (hr_X12_readAtom : ∀ {I : MI} {L : ML} {res : Bool × MI × ML}, r_X12_readAtom I L = some res → Ent g D 0 mX12_readAtom [.ref 149] (I, L) (.inl (some (.int (bI res.1)))) (res.2.1, res.2.2)) : ∀ (n : Nat) (I : MI) (L : ML) (res : Bool × MI × ML), f_X12_readAllOf_9 r_X12_readCond r_X12_readAllOf r_X12_readAtom n I L = some res → E g (D + 1) 0 mX12_readAllOf 9 [(0, .ref 149)] [] (I, L) (.inl (some (.int (bI res.1)))) (res.2.1, res.2.2) := by
  intro n
  induction n with
  | zero =>
    intros
    rename_i h
    cases h
  | succ n ih =>
    intro I L res h
    rw [f_X12_readAllOf_9] at h
    refine E_aload_n (M := mX12_readAllOf) 10 rfl dX12_readAllOf_9 rfl 0 rfl ?_
    refine E_ldcS (M := mX12_readAllOf) 64 (by decide) 12 rfl dX12_readAllOf_10 rfl ?_
    replace h := Option.bind_eq_some_iff.mp h
    obtain ⟨w1, hw1, h⟩ := h
    refine E_cV1 (M := mX12_readAllOf) (As := [.ref (100000 + 64)]) 15 rfl dX12_readAllOf_12 shc_149 ck_X12_201 cv_X12_passes rfl (by omega) (Nat.le_of_ble_eq_true rfl) (C_X12_passes (g := g) (by decide) hw1) rfl ?_
    refine E_if_eqB (M := mX12_readAllOf) 37 18 (by decide) rfl dX12_readAllOf_15 (fun c2 => ?_) (fun c2 => ?_)
    · rw [if_neg (by rw [c2]; decide)] at h
      refine E_iconst (M := mX12_readAllOf) (v := 1) 38 rfl dX12_readAllOf_37 (by decide) ?_
      cases h
      exact E_zret (M := mX12_readAllOf) (x := true) rfl dX12_readAllOf_38
    · rw [if_pos c2] at h
      refine E_aload_n (M := mX12_readAllOf) 19 rfl dX12_readAllOf_18 rfl 0 rfl ?_
      replace h := Option.bind_eq_some_iff.mp h
      obtain ⟨w3, hw3, h⟩ := h
      refine E_cV1 (M := mX12_readAllOf) (As := []) 22 rfl dX12_readAllOf_19 shc_149 ck_X12_204 cv_X12_readAtom rfl (by omega) (Nat.le_of_ble_eq_true rfl) (hr_X12_readAtom hw3) rfl ?_
      refine E_if_neB (M := mX12_readAllOf) 27 25 (by decide) rfl dX12_readAllOf_22 (fun c4 => ?_) (fun c4 => ?_)
      · rw [if_pos c4] at h
        refine E_aload_n (M := mX12_readAllOf) 28 rfl dX12_readAllOf_27 rfl 0 rfl ?_
        refine E_bipush (M := mX12_readAllOf) (v := 14) 30 rfl dX12_readAllOf_28 (by decide) ?_
        refine E_iconst (M := mX12_readAllOf) (v := 0) 31 rfl dX12_readAllOf_30 (by decide) ?_
        replace h := Option.bind_eq_some_iff.mp h
        obtain ⟨w5, hw5, h⟩ := h
        refine E_cV0 (M := mX12_readAllOf) (As := [.int 14, .int 0]) 34 rfl dX12_readAllOf_31 shc_149 ck_X12_174 cv_X12_emits rfl (by omega) (Nat.le_of_ble_eq_true rfl) (C_X12_emits (g := g) hw5) rfl ?_
        refine E_goto (M := mX12_readAllOf) 9 (by decide) dX12_readAllOf_34 ?_
        refine E_sub (M := mX12_readAllOf) (lv' := [(0, .ref 149)]) [0] rfl ?_
        exact ih w5.1 w5.2 _ h
      · rw [if_neg (by rw [c4]; decide)] at h
        refine E_iconst (M := mX12_readAllOf) (v := 0) 26 rfl dX12_readAllOf_25 (by decide) ?_
        cases h
        exact E_zret (M := mX12_readAllOf) (x := false) rfl dX12_readAllOf_26
def F_X12_readAllOf (r_X12_readCond : MI → ML → Option (Bool × MI × ML)) (r_X12_readAllOf : MI → ML → Option (Bool × MI × ML)) (r_X12_readAtom : MI → ML → Option (Bool × MI × ML)) (I : MI) (L : ML) : Option (Bool × MI × ML) := Option.bind (r_X12_readAtom I L) fun w1 => if w1.1 = true then (f_X12_readAllOf_9 r_X12_readCond r_X12_readAllOf r_X12_readAtom FU w1.2.1 w1.2.2) else (some (false, w1.2.1, w1.2.2))
set_option maxRecDepth 100000 in
theorem S_X12_readAllOf {g : Gx} {D : Nat} {r_X12_readCond : MI → ML → Option (Bool × MI × ML)} {r_X12_readAllOf : MI → ML → Option (Bool × MI × ML)} {r_X12_readAtom : MI → ML → Option (Bool × MI × ML)} (hD : 7 ≤ D) (hr_X12_readCond : ∀ {I : MI} {L : ML} {res : Bool × MI × ML}, r_X12_readCond I L = some res → Ent g D 0 mX12_readCond [.ref 149] (I, L) (.inl (some (.int (bI res.1)))) (res.2.1, res.2.2)) (hr_X12_readAllOf : ∀ {I : MI} {L : ML} {res : Bool × MI × ML}, r_X12_readAllOf I L = some res → Ent g D 0 mX12_readAllOf [.ref 149] (I, L) (.inl (some (.int (bI res.1)))) (res.2.1, res.2.2)) (hr_X12_readAtom : ∀ {I : MI} {L : ML} {res : Bool × MI × ML}, r_X12_readAtom I L = some res → Ent g D 0 mX12_readAtom [.ref 149] (I, L) (.inl (some (.int (bI res.1)))) (res.2.1, res.2.2)) (I : MI) (L : ML) (res : Bool × MI × ML) (h : F_X12_readAllOf r_X12_readCond r_X12_readAllOf r_X12_readAtom I L = some res) : E g (D + 1) 0 mX12_readAllOf 0 [(0, .ref 149)] [] (I, L) (.inl (some (.int (bI res.1)))) (res.2.1, res.2.2) := by
  unfold F_X12_readAllOf at h
  refine E_aload_n (M := mX12_readAllOf) 1 rfl dX12_readAllOf_0 rfl 0 rfl ?_
  replace h := Option.bind_eq_some_iff.mp h
  obtain ⟨w1, hw1, h⟩ := h
  refine E_cV1 (M := mX12_readAllOf) (As := []) 4 rfl dX12_readAllOf_1 shc_149 ck_X12_204 cv_X12_readAtom rfl (by omega) (Nat.le_of_ble_eq_true rfl) (hr_X12_readAtom hw1) rfl ?_
  refine E_if_neB (M := mX12_readAllOf) 9 7 (by decide) rfl dX12_readAllOf_4 (fun c2 => ?_) (fun c2 => ?_)
  · rw [if_pos c2] at h
    refine E_sub (M := mX12_readAllOf) (lv' := [(0, .ref 149)]) [0] rfl ?_
    exact S_X12_readAllOf_9 hD hr_X12_readCond hr_X12_readAllOf hr_X12_readAtom FU w1.2.1 w1.2.2 _ h
  · rw [if_neg (by rw [c2]; decide)] at h
    refine E_iconst (M := mX12_readAllOf) (v := 0) 8 rfl dX12_readAllOf_7 (by decide) ?_
    cases h
    exact E_zret (M := mX12_readAllOf) (x := false) rfl dX12_readAllOf_8
def f_X12_readAtom_173 (r_X12_readCond : MI → ML → Option (Bool × MI × ML)) (r_X12_readAllOf : MI → ML → Option (Bool × MI × ML)) (r_X12_readAtom : MI → ML → Option (Bool × MI × ML)) (y1 : Int32) (I : MI) (L : ML) : Option (Bool × MI × ML) := Option.bind (f_X12_emits y1 0 I L) fun w1 => some (true, w1.1, w1.2)
set_option maxRecDepth 100000 in
theorem S_X12_readAtom_173 {g : Gx} {D : Nat} {r_X12_readCond : MI → ML → Option (Bool × MI × ML)} {r_X12_readAllOf : MI → ML → Option (Bool × MI × ML)} {r_X12_readAtom : MI → ML → Option (Bool × MI × ML)} (hD : 7 ≤ D) (hr_X12_readCond : ∀ {I : MI} {L : ML} {res : Bool × MI × ML}, r_X12_readCond I L = some res → Ent g D 0 mX12_readCond [.ref 149] (I, L) (.inl (some (.int (bI res.1)))) (res.2.1, res.2.2)) (hr_X12_readAllOf : ∀ {I : MI} {L : ML} {res : Bool × MI × ML}, r_X12_readAllOf I L = some res → Ent g D 0 mX12_readAllOf [.ref 149] (I, L) (.inl (some (.int (bI res.1)))) (res.2.1, res.2.2)) (hr_X12_readAtom : ∀ {I : MI} {L : ML} {res : Bool × MI × ML}, r_X12_readAtom I L = some res → Ent g D 0 mX12_readAtom [.ref 149] (I, L) (.inl (some (.int (bI res.1)))) (res.2.1, res.2.2)) (y1 : Int32) (I : MI) (L : ML) (res : Bool × MI × ML) (h : f_X12_readAtom_173 r_X12_readCond r_X12_readAllOf r_X12_readAtom y1 I L = some res) : E g (D + 1) 0 mX12_readAtom 173 [] [.int y1, .ref 149] (I, L) (.inl (some (.int (bI res.1)))) (res.2.1, res.2.2) := by
  unfold f_X12_readAtom_173 at h
  refine E_iconst (M := mX12_readAtom) (v := 0) 174 rfl dX12_readAtom_173 (by decide) ?_
  replace h := Option.bind_eq_some_iff.mp h
  obtain ⟨w1, hw1, h⟩ := h
  refine E_cV0 (M := mX12_readAtom) (As := [.int y1, .int 0]) 177 rfl dX12_readAtom_174 shc_149 ck_X12_174 cv_X12_emits rfl (by omega) (Nat.le_of_ble_eq_true rfl) (C_X12_emits (g := g) hw1) rfl ?_
  refine E_iconst (M := mX12_readAtom) (v := 1) 178 rfl dX12_readAtom_177 (by decide) ?_
  cases h
  exact E_zret (M := mX12_readAtom) (x := true) rfl dX12_readAtom_178
def f_X12_readAtom_159 (r_X12_readCond : MI → ML → Option (Bool × MI × ML)) (r_X12_readAllOf : MI → ML → Option (Bool × MI × ML)) (r_X12_readAtom : MI → ML → Option (Bool × MI × ML)) (I : MI) (L : ML) : Option (Bool × MI × ML) := some (false, I, L)
set_option maxRecDepth 100000 in
theorem S_X12_readAtom_159 {g : Gx} {D : Nat} {r_X12_readCond : MI → ML → Option (Bool × MI × ML)} {r_X12_readAllOf : MI → ML → Option (Bool × MI × ML)} {r_X12_readAtom : MI → ML → Option (Bool × MI × ML)} (hD : 7 ≤ D) (hr_X12_readCond : ∀ {I : MI} {L : ML} {res : Bool × MI × ML}, r_X12_readCond I L = some res → Ent g D 0 mX12_readCond [.ref 149] (I, L) (.inl (some (.int (bI res.1)))) (res.2.1, res.2.2)) (hr_X12_readAllOf : ∀ {I : MI} {L : ML} {res : Bool × MI × ML}, r_X12_readAllOf I L = some res → Ent g D 0 mX12_readAllOf [.ref 149] (I, L) (.inl (some (.int (bI res.1)))) (res.2.1, res.2.2)) (hr_X12_readAtom : ∀ {I : MI} {L : ML} {res : Bool × MI × ML}, r_X12_readAtom I L = some res → Ent g D 0 mX12_readAtom [.ref 149] (I, L) (.inl (some (.int (bI res.1)))) (res.2.1, res.2.2)) (I : MI) (L : ML) (res : Bool × MI × ML) (h : f_X12_readAtom_159 r_X12_readCond r_X12_readAllOf r_X12_readAtom I L = some res) : E g (D + 1) 0 mX12_readAtom 159 [] [] (I, L) (.inl (some (.int (bI res.1)))) (res.2.1, res.2.2) := by
  unfold f_X12_readAtom_159 at h
  refine E_iconst (M := mX12_readAtom) (v := 0) 160 rfl dX12_readAtom_159 (by decide) ?_
  cases h
  exact E_zret (M := mX12_readAtom) (x := false) rfl dX12_readAtom_160
def f_X12_readAtom_152 (r_X12_readCond : MI → ML → Option (Bool × MI × ML)) (r_X12_readAllOf : MI → ML → Option (Bool × MI × ML)) (r_X12_readAtom : MI → ML → Option (Bool × MI × ML)) (x1 : Bool) (I : MI) (L : ML) : Option (Bool × MI × ML) := Option.bind (f_X12_readSum I L) fun w1 => if w1.1 = true then (if x1 = true then (f_X12_readAtom_173 r_X12_readCond r_X12_readAllOf r_X12_readAtom 11 w1.2.1 w1.2.2) else (f_X12_readAtom_173 r_X12_readCond r_X12_readAllOf r_X12_readAtom 12 w1.2.1 w1.2.2)) else (f_X12_readAtom_159 r_X12_readCond r_X12_readAllOf r_X12_readAtom w1.2.1 w1.2.2)
set_option maxRecDepth 100000 in
theorem S_X12_readAtom_152 {g : Gx} {D : Nat} {r_X12_readCond : MI → ML → Option (Bool × MI × ML)} {r_X12_readAllOf : MI → ML → Option (Bool × MI × ML)} {r_X12_readAtom : MI → ML → Option (Bool × MI × ML)} (hD : 7 ≤ D) (hr_X12_readCond : ∀ {I : MI} {L : ML} {res : Bool × MI × ML}, r_X12_readCond I L = some res → Ent g D 0 mX12_readCond [.ref 149] (I, L) (.inl (some (.int (bI res.1)))) (res.2.1, res.2.2)) (hr_X12_readAllOf : ∀ {I : MI} {L : ML} {res : Bool × MI × ML}, r_X12_readAllOf I L = some res → Ent g D 0 mX12_readAllOf [.ref 149] (I, L) (.inl (some (.int (bI res.1)))) (res.2.1, res.2.2)) (hr_X12_readAtom : ∀ {I : MI} {L : ML} {res : Bool × MI × ML}, r_X12_readAtom I L = some res → Ent g D 0 mX12_readAtom [.ref 149] (I, L) (.inl (some (.int (bI res.1)))) (res.2.1, res.2.2)) (x1 : Bool) (I : MI) (L : ML) (res : Bool × MI × ML) (h : f_X12_readAtom_152 r_X12_readCond r_X12_readAllOf r_X12_readAtom x1 I L = some res) : E g (D + 1) 0 mX12_readAtom 152 [(0, .ref 149), (1, .int (bI x1))] [] (I, L) (.inl (some (.int (bI res.1)))) (res.2.1, res.2.2) := by
  unfold f_X12_readAtom_152 at h
  refine E_aload_n (M := mX12_readAtom) 153 rfl dX12_readAtom_152 rfl 0 rfl ?_
  replace h := Option.bind_eq_some_iff.mp h
  obtain ⟨w1, hw1, h⟩ := h
  refine E_cV1 (M := mX12_readAtom) (As := []) 156 rfl dX12_readAtom_153 shc_149 ck_X12_210 cv_X12_readSum rfl (by omega) (Nat.le_of_ble_eq_true rfl) (C_X12_readSum (g := g) hw1) rfl ?_
  refine E_if_neB (M := mX12_readAtom) 161 159 (by decide) rfl dX12_readAtom_156 (fun c2 => ?_) (fun c2 => ?_)
  · rw [if_pos c2] at h
    refine E_aload_n (M := mX12_readAtom) 162 rfl dX12_readAtom_161 rfl 0 rfl ?_
    refine E_iload_n (M := mX12_readAtom) 163 rfl dX12_readAtom_162 rfl 1 rfl ?_
    refine E_if_eqB (M := mX12_readAtom) 171 166 (by decide) rfl dX12_readAtom_163 (fun c3 => ?_) (fun c3 => ?_)
    · rw [if_neg (by rw [c3]; decide)] at h
      refine E_bipush (M := mX12_readAtom) (v := 12) 173 rfl dX12_readAtom_171 (by decide) ?_
      refine E_sub (M := mX12_readAtom) (lv' := []) [] rfl ?_
      exact S_X12_readAtom_173 hD hr_X12_readCond hr_X12_readAllOf hr_X12_readAtom 12 w1.2.1 w1.2.2 _ h
    · rw [if_pos c3] at h
      refine E_bipush (M := mX12_readAtom) (v := 11) 168 rfl dX12_readAtom_166 (by decide) ?_
      refine E_goto (M := mX12_readAtom) 173 (by decide) dX12_readAtom_168 ?_
      refine E_sub (M := mX12_readAtom) (lv' := []) [] rfl ?_
      exact S_X12_readAtom_173 hD hr_X12_readCond hr_X12_readAllOf hr_X12_readAtom 11 w1.2.1 w1.2.2 _ h
  · rw [if_neg (by rw [c2]; decide)] at h
    refine E_sub (M := mX12_readAtom) (lv' := []) [] rfl ?_
    exact S_X12_readAtom_159 hD hr_X12_readCond hr_X12_readAllOf hr_X12_readAtom w1.2.1 w1.2.2 _ h
def F_X12_readAtom (r_X12_readCond : MI → ML → Option (Bool × MI × ML)) (r_X12_readAllOf : MI → ML → Option (Bool × MI × ML)) (r_X12_readAtom : MI → ML → Option (Bool × MI × ML)) (I : MI) (L : ML) : Option (Bool × MI × ML) := Option.bind (f_X12_sign 40 I L) fun w1 => if w1.1 = true then (if (w1.2.1 149 12) = 6 then (some (false, w1.2.1, w1.2.2)) else (Option.bind (pfI w1.2.1 149 12 ((w1.2.1 149 12) + 1)) fun I20 => Option.bind (r_X12_readCond I20 w1.2.2) fun w21 => if w21.1 = true then (Option.bind (pfI w21.2.1 149 12 ((w21.2.1 149 12) - 1)) fun I23 => Option.bind (f_X12_sign 41 I23 w21.2.2) fun w24 => some (w24.1, w24.2.1, w24.2.2)) else (some (false, w21.2.1, w21.2.2)))) else (Option.bind (f_X12_passes 59 w1.2.1 w1.2.2) fun w3 => if w3.1 = true then (if (w3.2.1 149 12) = 6 then (some (false, w3.2.1, w3.2.2)) else (Option.bind (pfI w3.2.1 149 12 ((w3.2.1 149 12) + 1)) fun I14 => Option.bind (r_X12_readAtom I14 w3.2.2) fun w15 => if w15.1 = true then (Option.bind (pfI w15.2.1 149 12 ((w15.2.1 149 12) - 1)) fun I17 => Option.bind (f_X12_emits 13 0 I17 w15.2.2) fun w18 => some (true, w18.1, w18.2)) else (some (false, w15.2.1, w15.2.2)))) else (Option.bind (f_X12_readTag w3.2.1 w3.2.2) fun w5 => if w5.1 = true then (some (true, w5.2.1, w5.2.2)) else (Option.bind (f_X12_readSum w5.2.1 w5.2.2) fun w7 => if w7.1 = true then (Option.bind (f_X12_sign 60 w7.2.1 w7.2.2) fun w9 => if w9.1 = true then (f_X12_readAtom_152 r_X12_readCond r_X12_readAllOf r_X12_readAtom w9.1 w9.2.1 w9.2.2) else (Option.bind (f_X12_sign 62 w9.2.1 w9.2.2) fun w11 => if w11.1 = true then (f_X12_readAtom_152 r_X12_readCond r_X12_readAllOf r_X12_readAtom w9.1 w11.2.1 w11.2.2) else (f_X12_readAtom_159 r_X12_readCond r_X12_readAllOf r_X12_readAtom w11.2.1 w11.2.2))) else (some (false, w7.2.1, w7.2.2)))))
set_option maxRecDepth 100000 in
theorem S_X12_readAtom {g : Gx} {D : Nat} {r_X12_readCond : MI → ML → Option (Bool × MI × ML)} {r_X12_readAllOf : MI → ML → Option (Bool × MI × ML)} {r_X12_readAtom : MI → ML → Option (Bool × MI × ML)} (hD : 7 ≤ D) (hr_X12_readCond : ∀ {I : MI} {L : ML} {res : Bool × MI × ML}, r_X12_readCond I L = some res → Ent g D 0 mX12_readCond [.ref 149] (I, L) (.inl (some (.int (bI res.1)))) (res.2.1, res.2.2)) (hr_X12_readAllOf : ∀ {I : MI} {L : ML} {res : Bool × MI × ML}, r_X12_readAllOf I L = some res → Ent g D 0 mX12_readAllOf [.ref 149] (I, L) (.inl (some (.int (bI res.1)))) (res.2.1, res.2.2)) (hr_X12_readAtom : ∀ {I : MI} {L : ML} {res : Bool × MI × ML}, r_X12_readAtom I L = some res → Ent g D 0 mX12_readAtom [.ref 149] (I, L) (.inl (some (.int (bI res.1)))) (res.2.1, res.2.2)) (I : MI) (L : ML) (res : Bool × MI × ML) (h : F_X12_readAtom r_X12_readCond r_X12_readAllOf r_X12_readAtom I L = some res) : E g (D + 1) 0 mX12_readAtom 0 [(0, .ref 149)] [] (I, L) (.inl (some (.int (bI res.1)))) (res.2.1, res.2.2) := by
  unfold F_X12_readAtom at h
  refine E_aload_n (M := mX12_readAtom) 1 rfl dX12_readAtom_0 rfl 0 rfl ?_
  refine E_bipush (M := mX12_readAtom) (v := 40) 3 rfl dX12_readAtom_1 (by decide) ?_
  replace h := Option.bind_eq_some_iff.mp h
  obtain ⟨w1, hw1, h⟩ := h
  refine E_cV1 (M := mX12_readAtom) (As := [.int 40]) 6 rfl dX12_readAtom_3 shc_149 ck_X12_185 cv_X12_sign rfl (by omega) (Nat.le_of_ble_eq_true rfl) (C_X12_sign (g := g) hw1) rfl ?_
  refine E_if_eqB (M := mX12_readAtom) 56 9 (by decide) rfl dX12_readAtom_6 (fun c2 => ?_) (fun c2 => ?_)
  · rw [if_neg (by rw [c2]; decide)] at h
    refine E_aload_n (M := mX12_readAtom) 57 rfl dX12_readAtom_56 rfl 0 rfl ?_
    refine E_ldcS (M := mX12_readAtom) 59 (by decide) 59 rfl dX12_readAtom_57 rfl ?_
    replace h := Option.bind_eq_some_iff.mp h
    obtain ⟨w3, hw3, h⟩ := h
    refine E_cV1 (M := mX12_readAtom) (As := [.ref (100000 + 59)]) 62 rfl dX12_readAtom_59 shc_149 ck_X12_201 cv_X12_passes rfl (by omega) (Nat.le_of_ble_eq_true rfl) (C_X12_passes (g := g) (by decide) hw3) rfl ?_
    refine E_if_eqB (M := mX12_readAtom) 114 65 (by decide) rfl dX12_readAtom_62 (fun c4 => ?_) (fun c4 => ?_)
    · rw [if_neg (by rw [c4]; decide)] at h
      refine E_aload_n (M := mX12_readAtom) 115 rfl dX12_readAtom_114 rfl 0 rfl ?_
      replace h := Option.bind_eq_some_iff.mp h
      obtain ⟨w5, hw5, h⟩ := h
      refine E_cV1 (M := mX12_readAtom) (As := []) 118 rfl dX12_readAtom_115 shc_149 ck_X12_207 cv_X12_readTag rfl (by omega) (Nat.le_of_ble_eq_true rfl) (C_X12_readTag (g := g) hw5) rfl ?_
      refine E_if_eqB (M := mX12_readAtom) 123 121 (by decide) rfl dX12_readAtom_118 (fun c6 => ?_) (fun c6 => ?_)
      · rw [if_neg (by rw [c6]; decide)] at h
        refine E_aload_n (M := mX12_readAtom) 124 rfl dX12_readAtom_123 rfl 0 rfl ?_
        replace h := Option.bind_eq_some_iff.mp h
        obtain ⟨w7, hw7, h⟩ := h
        refine E_cV1 (M := mX12_readAtom) (As := []) 127 rfl dX12_readAtom_124 shc_149 ck_X12_210 cv_X12_readSum rfl (by omega) (Nat.le_of_ble_eq_true rfl) (C_X12_readSum (g := g) hw7) rfl ?_
        refine E_if_neB (M := mX12_readAtom) 132 130 (by decide) rfl dX12_readAtom_127 (fun c8 => ?_) (fun c8 => ?_)
        · rw [if_pos c8] at h
          refine E_aload_n (M := mX12_readAtom) 133 rfl dX12_readAtom_132 rfl 0 rfl ?_
          refine E_bipush (M := mX12_readAtom) (v := 60) 135 rfl dX12_readAtom_133 (by decide) ?_
          replace h := Option.bind_eq_some_iff.mp h
          obtain ⟨w9, hw9, h⟩ := h
          refine E_cV1 (M := mX12_readAtom) (As := [.int 60]) 138 rfl dX12_readAtom_135 shc_149 ck_X12_185 cv_X12_sign rfl (by omega) (Nat.le_of_ble_eq_true rfl) (C_X12_sign (g := g) hw9) rfl ?_
          refine E_istore_n (M := mX12_readAtom) (lv' := [(1, .int (bI w9.1)), (0, .ref 149)]) 139 rfl dX12_readAtom_138 rfl (Nat.le_of_ble_eq_true rfl) rfl ?_
          refine E_iload_n (M := mX12_readAtom) 140 rfl dX12_readAtom_139 rfl 0 rfl ?_
          refine E_if_neB (M := mX12_readAtom) 152 143 (by decide) rfl dX12_readAtom_140 (fun c10 => ?_) (fun c10 => ?_)
          · rw [if_pos c10] at h
            refine E_sub (M := mX12_readAtom) (lv' := [(0, .ref 149), (1, .int (bI w9.1))]) [1, 0] rfl ?_
            exact S_X12_readAtom_152 hD hr_X12_readCond hr_X12_readAllOf hr_X12_readAtom w9.1 w9.2.1 w9.2.2 _ h
          · rw [if_neg (by rw [c10]; decide)] at h
            refine E_aload_n (M := mX12_readAtom) 144 rfl dX12_readAtom_143 rfl 1 rfl ?_
            refine E_bipush (M := mX12_readAtom) (v := 62) 146 rfl dX12_readAtom_144 (by decide) ?_
            replace h := Option.bind_eq_some_iff.mp h
            obtain ⟨w11, hw11, h⟩ := h
            refine E_cV1 (M := mX12_readAtom) (As := [.int 62]) 149 rfl dX12_readAtom_146 shc_149 ck_X12_185 cv_X12_sign rfl (by omega) (Nat.le_of_ble_eq_true rfl) (C_X12_sign (g := g) hw11) rfl ?_
            refine E_if_eqB (M := mX12_readAtom) 159 152 (by decide) rfl dX12_readAtom_149 (fun c12 => ?_) (fun c12 => ?_)
            · rw [if_neg (by rw [c12]; decide)] at h
              refine E_sub (M := mX12_readAtom) (lv' := []) [] rfl ?_
              exact S_X12_readAtom_159 hD hr_X12_readCond hr_X12_readAllOf hr_X12_readAtom w11.2.1 w11.2.2 _ h
            · rw [if_pos c12] at h
              refine E_sub (M := mX12_readAtom) (lv' := [(0, .ref 149), (1, .int (bI w9.1))]) [1, 0] rfl ?_
              exact S_X12_readAtom_152 hD hr_X12_readCond hr_X12_readAllOf hr_X12_readAtom w9.1 w11.2.1 w11.2.2 _ h
        · rw [if_neg (by rw [c8]; decide)] at h
          refine E_iconst (M := mX12_readAtom) (v := 0) 131 rfl dX12_readAtom_130 (by decide) ?_
          cases h
          exact E_zret (M := mX12_readAtom) (x := false) rfl dX12_readAtom_131
      · rw [if_pos c6] at h
        refine E_iconst (M := mX12_readAtom) (v := 1) 122 rfl dX12_readAtom_121 (by decide) ?_
        cases h
        exact E_zret (M := mX12_readAtom) (x := true) rfl dX12_readAtom_122
    · rw [if_pos c4] at h
      refine E_aload_n (M := mX12_readAtom) 66 rfl dX12_readAtom_65 rfl 0 rfl ?_
      refine E_gI (M := mX12_readAtom) 69 rfl dX12_readAtom_66 shc_149 fl_X12_193 rfl ?_
      refine E_bipush (M := mX12_readAtom) (v := 6) 71 rfl dX12_readAtom_69 (by decide) ?_
      refine E_icmp_ne (M := mX12_readAtom) 76 74 (by decide) rfl dX12_readAtom_71 (fun c13 => ?_) (fun c13 => ?_)
      · rw [if_neg c13] at h
        refine E_aload_n (M := mX12_readAtom) 77 rfl dX12_readAtom_76 rfl 0 rfl ?_
        refine E_dup (M := mX12_readAtom) 78 rfl dX12_readAtom_77 rfl ?_
        refine E_gI (M := mX12_readAtom) 81 rfl dX12_readAtom_78 shc_149 fl_X12_193 rfl ?_
        refine E_iconst (M := mX12_readAtom) (v := 1) 82 rfl dX12_readAtom_81 (by decide) ?_
        refine E_iadd (M := mX12_readAtom) 83 rfl dX12_readAtom_82 ?_
        replace h := Option.bind_eq_some_iff.mp h
        obtain ⟨I14, hI14, h⟩ := h
        refine E_pfI (M := mX12_readAtom) 86 rfl dX12_readAtom_83 shc_149 fl_X12_193 rfl hI14 ?_
        refine E_aload_n (M := mX12_readAtom) 87 rfl dX12_readAtom_86 rfl 0 rfl ?_
        replace h := Option.bind_eq_some_iff.mp h
        obtain ⟨w15, hw15, h⟩ := h
        refine E_cV1 (M := mX12_readAtom) (As := []) 90 rfl dX12_readAtom_87 shc_149 ck_X12_204 cv_X12_readAtom rfl (by omega) (Nat.le_of_ble_eq_true rfl) (hr_X12_readAtom hw15) rfl ?_
        refine E_if_neB (M := mX12_readAtom) 95 93 (by decide) rfl dX12_readAtom_90 (fun c16 => ?_) (fun c16 => ?_)
        · rw [if_pos c16] at h
          refine E_aload_n (M := mX12_readAtom) 96 rfl dX12_readAtom_95 rfl 0 rfl ?_
          refine E_dup (M := mX12_readAtom) 97 rfl dX12_readAtom_96 rfl ?_
          refine E_gI (M := mX12_readAtom) 100 rfl dX12_readAtom_97 shc_149 fl_X12_193 rfl ?_
          refine E_iconst (M := mX12_readAtom) (v := 1) 101 rfl dX12_readAtom_100 (by decide) ?_
          refine E_isub (M := mX12_readAtom) 102 rfl dX12_readAtom_101 ?_
          replace h := Option.bind_eq_some_iff.mp h
          obtain ⟨I17, hI17, h⟩ := h
          refine E_pfI (M := mX12_readAtom) 105 rfl dX12_readAtom_102 shc_149 fl_X12_193 rfl hI17 ?_
          refine E_aload_n (M := mX12_readAtom) 106 rfl dX12_readAtom_105 rfl 0 rfl ?_
          refine E_bipush (M := mX12_readAtom) (v := 13) 108 rfl dX12_readAtom_106 (by decide) ?_
          refine E_iconst (M := mX12_readAtom) (v := 0) 109 rfl dX12_readAtom_108 (by decide) ?_
          replace h := Option.bind_eq_some_iff.mp h
          obtain ⟨w18, hw18, h⟩ := h
          refine E_cV0 (M := mX12_readAtom) (As := [.int 13, .int 0]) 112 rfl dX12_readAtom_109 shc_149 ck_X12_174 cv_X12_emits rfl (by omega) (Nat.le_of_ble_eq_true rfl) (C_X12_emits (g := g) hw18) rfl ?_
          refine E_iconst (M := mX12_readAtom) (v := 1) 113 rfl dX12_readAtom_112 (by decide) ?_
          cases h
          exact E_zret (M := mX12_readAtom) (x := true) rfl dX12_readAtom_113
        · rw [if_neg (by rw [c16]; decide)] at h
          refine E_iconst (M := mX12_readAtom) (v := 0) 94 rfl dX12_readAtom_93 (by decide) ?_
          cases h
          exact E_zret (M := mX12_readAtom) (x := false) rfl dX12_readAtom_94
      · rw [if_pos c13] at h
        refine E_iconst (M := mX12_readAtom) (v := 0) 75 rfl dX12_readAtom_74 (by decide) ?_
        cases h
        exact E_zret (M := mX12_readAtom) (x := false) rfl dX12_readAtom_75
  · rw [if_pos c2] at h
    refine E_aload_n (M := mX12_readAtom) 10 rfl dX12_readAtom_9 rfl 0 rfl ?_
    refine E_gI (M := mX12_readAtom) 13 rfl dX12_readAtom_10 shc_149 fl_X12_193 rfl ?_
    refine E_bipush (M := mX12_readAtom) (v := 6) 15 rfl dX12_readAtom_13 (by decide) ?_
    refine E_icmp_ne (M := mX12_readAtom) 20 18 (by decide) rfl dX12_readAtom_15 (fun c19 => ?_) (fun c19 => ?_)
    · rw [if_neg c19] at h
      refine E_aload_n (M := mX12_readAtom) 21 rfl dX12_readAtom_20 rfl 0 rfl ?_
      refine E_dup (M := mX12_readAtom) 22 rfl dX12_readAtom_21 rfl ?_
      refine E_gI (M := mX12_readAtom) 25 rfl dX12_readAtom_22 shc_149 fl_X12_193 rfl ?_
      refine E_iconst (M := mX12_readAtom) (v := 1) 26 rfl dX12_readAtom_25 (by decide) ?_
      refine E_iadd (M := mX12_readAtom) 27 rfl dX12_readAtom_26 ?_
      replace h := Option.bind_eq_some_iff.mp h
      obtain ⟨I20, hI20, h⟩ := h
      refine E_pfI (M := mX12_readAtom) 30 rfl dX12_readAtom_27 shc_149 fl_X12_193 rfl hI20 ?_
      refine E_aload_n (M := mX12_readAtom) 31 rfl dX12_readAtom_30 rfl 0 rfl ?_
      replace h := Option.bind_eq_some_iff.mp h
      obtain ⟨w21, hw21, h⟩ := h
      refine E_cV1 (M := mX12_readAtom) (As := []) 34 rfl dX12_readAtom_31 shc_149 ck_X12_196 cv_X12_readCond rfl (by omega) (Nat.le_of_ble_eq_true rfl) (hr_X12_readCond hw21) rfl ?_
      refine E_if_neB (M := mX12_readAtom) 39 37 (by decide) rfl dX12_readAtom_34 (fun c22 => ?_) (fun c22 => ?_)
      · rw [if_pos c22] at h
        refine E_aload_n (M := mX12_readAtom) 40 rfl dX12_readAtom_39 rfl 0 rfl ?_
        refine E_dup (M := mX12_readAtom) 41 rfl dX12_readAtom_40 rfl ?_
        refine E_gI (M := mX12_readAtom) 44 rfl dX12_readAtom_41 shc_149 fl_X12_193 rfl ?_
        refine E_iconst (M := mX12_readAtom) (v := 1) 45 rfl dX12_readAtom_44 (by decide) ?_
        refine E_isub (M := mX12_readAtom) 46 rfl dX12_readAtom_45 ?_
        replace h := Option.bind_eq_some_iff.mp h
        obtain ⟨I23, hI23, h⟩ := h
        refine E_pfI (M := mX12_readAtom) 49 rfl dX12_readAtom_46 shc_149 fl_X12_193 rfl hI23 ?_
        refine E_aload_n (M := mX12_readAtom) 50 rfl dX12_readAtom_49 rfl 0 rfl ?_
        refine E_bipush (M := mX12_readAtom) (v := 41) 52 rfl dX12_readAtom_50 (by decide) ?_
        replace h := Option.bind_eq_some_iff.mp h
        obtain ⟨w24, hw24, h⟩ := h
        refine E_cV1 (M := mX12_readAtom) (As := [.int 41]) 55 rfl dX12_readAtom_52 shc_149 ck_X12_185 cv_X12_sign rfl (by omega) (Nat.le_of_ble_eq_true rfl) (C_X12_sign (g := g) hw24) rfl ?_
        cases h
        exact E_zret (M := mX12_readAtom) (x := w24.1) rfl dX12_readAtom_55
      · rw [if_neg (by rw [c22]; decide)] at h
        refine E_iconst (M := mX12_readAtom) (v := 0) 38 rfl dX12_readAtom_37 (by decide) ?_
        cases h
        exact E_zret (M := mX12_readAtom) (x := false) rfl dX12_readAtom_38
    · rw [if_pos c19] at h
      refine E_iconst (M := mX12_readAtom) (v := 0) 19 rfl dX12_readAtom_18 (by decide) ?_
      cases h
      exact E_zret (M := mX12_readAtom) (x := false) rfl dX12_readAtom_19
def f_g_X12_readCond : Nat → (MI → ML → Option (Bool × MI × ML)) × (MI → ML → Option (Bool × MI × ML)) × (MI → ML → Option (Bool × MI × ML))
  | 0 => (fun _ _ => none, fun _ _ => none, fun _ _ => none)
  | n + 1 => (F_X12_readCond (f_g_X12_readCond n).1 (f_g_X12_readCond n).2.1 (f_g_X12_readCond n).2.2, F_X12_readAllOf (f_g_X12_readCond n).1 (f_g_X12_readCond n).2.1 (f_g_X12_readCond n).2.2, F_X12_readAtom (f_g_X12_readCond n).1 (f_g_X12_readCond n).2.1 (f_g_X12_readCond n).2.2)
def f_X12_readCond (n : Nat) : MI → ML → Option (Bool × MI × ML) := (f_g_X12_readCond n).1
def f_X12_readAllOf (n : Nat) : MI → ML → Option (Bool × MI × ML) := (f_g_X12_readCond n).2.1
def f_X12_readAtom (n : Nat) : MI → ML → Option (Bool × MI × ML) := (f_g_X12_readCond n).2.2
theorem C_f_g_X12_readCond {g : Gx} : ∀ (n : Nat), (∀ {I : MI} {L : ML} {res : Bool × MI × ML}, f_X12_readCond n I L = some res → Ent g (7 + n) 0 mX12_readCond [.ref 149] (I, L) (.inl (some (.int (bI res.1)))) (res.2.1, res.2.2)) ∧ (∀ {I : MI} {L : ML} {res : Bool × MI × ML}, f_X12_readAllOf n I L = some res → Ent g (7 + n) 0 mX12_readAllOf [.ref 149] (I, L) (.inl (some (.int (bI res.1)))) (res.2.1, res.2.2)) ∧ (∀ {I : MI} {L : ML} {res : Bool × MI × ML}, f_X12_readAtom n I L = some res → Ent g (7 + n) 0 mX12_readAtom [.ref 149] (I, L) (.inl (some (.int (bI res.1)))) (res.2.1, res.2.2)) := by
  intro n
  induction n with
  | zero =>
    refine ⟨?_, ?_, ?_⟩
    · intros
      rename_i h
      cases h
    · intros
      rename_i h
      cases h
    · intros
      rename_i h
      cases h
  | succ n ih =>
    refine ⟨?_, ?_, ?_⟩
    · intro I L res h
      exact Ent_of (by decide +kernel) (Nat.le_of_ble_eq_true rfl) (S_X12_readCond (D := 7 + n) (by omega) ih.1 ih.2.1 ih.2.2 I L _ h)
    · intro I L res h
      exact Ent_of (by decide +kernel) (Nat.le_of_ble_eq_true rfl) (S_X12_readAllOf (D := 7 + n) (by omega) ih.1 ih.2.1 ih.2.2 I L _ h)
    · intro I L res h
      exact Ent_of (by decide +kernel) (Nat.le_of_ble_eq_true rfl) (S_X12_readAtom (D := 7 + n) (by omega) ih.1 ih.2.1 ih.2.2 I L _ h)
theorem C_X12_readCond {g : Gx} (n : Nat) : ∀ {I : MI} {L : ML} {res : Bool × MI × ML}, f_X12_readCond n I L = some res → Ent g (7 + n) 0 mX12_readCond [.ref 149] (I, L) (.inl (some (.int (bI res.1)))) (res.2.1, res.2.2) := (C_f_g_X12_readCond n).1
theorem C_X12_readAllOf {g : Gx} (n : Nat) : ∀ {I : MI} {L : ML} {res : Bool × MI × ML}, f_X12_readAllOf n I L = some res → Ent g (7 + n) 0 mX12_readAllOf [.ref 149] (I, L) (.inl (some (.int (bI res.1)))) (res.2.1, res.2.2) := (C_f_g_X12_readCond n).2.1
theorem C_X12_readAtom {g : Gx} (n : Nat) : ∀ {I : MI} {L : ML} {res : Bool × MI × ML}, f_X12_readAtom n I L = some res → Ent g (7 + n) 0 mX12_readAtom [.ref 149] (I, L) (.inl (some (.int (bI res.1)))) (res.2.1, res.2.2) := (C_f_g_X12_readCond n).2.2
def f_X12_readWillLine_131 (x2 : Int32) (I : MI) (L : ML) : Option (Bool × MI × ML) := Option.bind (stI I 150 2143 (x2 + 3) (I 149 15)) fun I1 => some (true, I1, L)
set_option maxRecDepth 100000 in
theorem S_X12_readWillLine_131 {g : Gx} (x2 : Int32) (I : MI) (L : ML) (res : Bool × MI × ML) (h : f_X12_readWillLine_131 x2 I L = some res) : E g 48 0 mX12_readWillLine 131 [(0, .ref 149), (2, .int x2)] [] (I, L) (.inl (some (.int (bI res.1)))) (res.2.1, res.2.2) := by
  unfold f_X12_readWillLine_131 at h
  refine E_aload_n (M := mX12_readWillLine) 132 rfl dX12_readWillLine_131 rfl 0 rfl ?_
  refine E_gR (M := mX12_readWillLine) 150 135 rfl dX12_readWillLine_132 shc_149 fl_X12_13 rfl (by decide) (by decide) ?_
  refine E_iload_n (M := mX12_readWillLine) 136 rfl dX12_readWillLine_135 rfl 1 rfl ?_
  refine E_iconst (M := mX12_readWillLine) (v := 3) 137 rfl dX12_readWillLine_136 (by decide) ?_
  refine E_iadd (M := mX12_readWillLine) 138 rfl dX12_readWillLine_137 ?_
  refine E_aload_n (M := mX12_readWillLine) 139 rfl dX12_readWillLine_138 rfl 0 rfl ?_
  refine E_gI (M := mX12_readWillLine) 142 rfl dX12_readWillLine_139 shc_149 fl_X12_171 rfl ?_
  replace h := Option.bind_eq_some_iff.mp h
  obtain ⟨I1, hI1, h⟩ := h
  refine E_stI (M := mX12_readWillLine) 143 rfl dX12_readWillLine_142 shc_150 hI1 ?_
  refine E_iconst (M := mX12_readWillLine) (v := 1) 144 rfl dX12_readWillLine_143 (by decide) ?_
  cases h
  exact E_zret (M := mX12_readWillLine) (x := true) rfl dX12_readWillLine_144
def f_X12_readWillLine_96 (x2 : Int32) (I : MI) (L : ML) : Option (Bool × MI × ML) := Option.bind (stI I 150 2143 (x2 + 2) (I 149 15)) fun I1 => Option.bind (pfI I1 149 12 0) fun I2 => Option.bind (f_X12_passes 58 I2 L) fun w3 => if w3.1 = true then (Option.bind (f_X12_readCond 40 w3.2.1 w3.2.2) fun w5 => if w5.1 = true then (f_X12_readWillLine_131 x2 w5.2.1 w5.2.2) else (some (false, w5.2.1, w5.2.2))) else (f_X12_readWillLine_131 x2 w3.2.1 w3.2.2)
set_option maxRecDepth 100000 in
theorem S_X12_readWillLine_96 {g : Gx} (x2 : Int32) (I : MI) (L : ML) (res : Bool × MI × ML) (h : f_X12_readWillLine_96 x2 I L = some res) : E g 48 0 mX12_readWillLine 96 [(0, .ref 149), (2, .int x2)] [] (I, L) (.inl (some (.int (bI res.1)))) (res.2.1, res.2.2) := by
  unfold f_X12_readWillLine_96 at h
  refine E_aload_n (M := mX12_readWillLine) 97 rfl dX12_readWillLine_96 rfl 0 rfl ?_
  refine E_gR (M := mX12_readWillLine) 150 100 rfl dX12_readWillLine_97 shc_149 fl_X12_13 rfl (by decide) (by decide) ?_
  refine E_iload_n (M := mX12_readWillLine) 101 rfl dX12_readWillLine_100 rfl 1 rfl ?_
  refine E_iconst (M := mX12_readWillLine) (v := 2) 102 rfl dX12_readWillLine_101 (by decide) ?_
  refine E_iadd (M := mX12_readWillLine) 103 rfl dX12_readWillLine_102 ?_
  refine E_aload_n (M := mX12_readWillLine) 104 rfl dX12_readWillLine_103 rfl 0 rfl ?_
  refine E_gI (M := mX12_readWillLine) 107 rfl dX12_readWillLine_104 shc_149 fl_X12_171 rfl ?_
  replace h := Option.bind_eq_some_iff.mp h
  obtain ⟨I1, hI1, h⟩ := h
  refine E_stI (M := mX12_readWillLine) 108 rfl dX12_readWillLine_107 shc_150 hI1 ?_
  refine E_aload_n (M := mX12_readWillLine) 109 rfl dX12_readWillLine_108 rfl 0 rfl ?_
  refine E_iconst (M := mX12_readWillLine) (v := 0) 110 rfl dX12_readWillLine_109 (by decide) ?_
  replace h := Option.bind_eq_some_iff.mp h
  obtain ⟨I2, hI2, h⟩ := h
  refine E_pfI (M := mX12_readWillLine) 113 rfl dX12_readWillLine_110 shc_149 fl_X12_193 rfl hI2 ?_
  refine E_aload_n (M := mX12_readWillLine) 114 rfl dX12_readWillLine_113 rfl 0 rfl ?_
  refine E_ldcS (M := mX12_readWillLine) 58 (by decide) 116 rfl dX12_readWillLine_114 rfl ?_
  replace h := Option.bind_eq_some_iff.mp h
  obtain ⟨w3, hw3, h⟩ := h
  refine E_cV1 (M := mX12_readWillLine) (As := [.ref (100000 + 58)]) 119 rfl dX12_readWillLine_116 shc_149 ck_X12_201 cv_X12_passes rfl (by decide) (Nat.le_of_ble_eq_true rfl) (C_X12_passes (g := g) (by decide) hw3) rfl ?_
  refine E_if_eqB (M := mX12_readWillLine) 131 122 (by decide) rfl dX12_readWillLine_119 (fun c4 => ?_) (fun c4 => ?_)
  · rw [if_neg (by rw [c4]; decide)] at h
    refine E_sub (M := mX12_readWillLine) (lv' := [(0, .ref 149), (2, .int x2)]) [0, 1] rfl ?_
    exact S_X12_readWillLine_131 x2 w3.2.1 w3.2.2 _ h
  · rw [if_pos c4] at h
    refine E_aload_n (M := mX12_readWillLine) 123 rfl dX12_readWillLine_122 rfl 0 rfl ?_
    replace h := Option.bind_eq_some_iff.mp h
    obtain ⟨w5, hw5, h⟩ := h
    refine E_cV1 (M := mX12_readWillLine) (As := []) 126 rfl dX12_readWillLine_123 shc_149 ck_X12_196 cv_X12_readCond rfl (by decide) (Nat.le_of_ble_eq_true rfl) (C_X12_readCond (g := g) 40 hw5) rfl ?_
    refine E_if_neB (M := mX12_readWillLine) 131 129 (by decide) rfl dX12_readWillLine_126 (fun c6 => ?_) (fun c6 => ?_)
    · rw [if_pos c6] at h
      refine E_sub (M := mX12_readWillLine) (lv' := [(0, .ref 149), (2, .int x2)]) [0, 1] rfl ?_
      exact S_X12_readWillLine_131 x2 w5.2.1 w5.2.2 _ h
    · rw [if_neg (by rw [c6]; decide)] at h
      refine E_iconst (M := mX12_readWillLine) (v := 0) 130 rfl dX12_readWillLine_129 (by decide) ?_
      cases h
      exact E_zret (M := mX12_readWillLine) (x := false) rfl dX12_readWillLine_130
def f_X12_readWillLine_78 (x2 : Int32) (x3 : Bool) (y1 : Int32) (y2 : Int32) (I : MI) (L : ML) : Option (Bool × MI × ML) := Option.bind (stI I 150 2143 y1 y2) fun I1 => if x3 = true then (Option.bind (ldI I1 150 2143 (x2 + 1)) fun v3 => if 0 ≤ v3 then (f_X12_readWillLine_96 x2 I1 L) else (some (false, I1, L))) else (f_X12_readWillLine_96 x2 I1 L)
set_option maxRecDepth 100000 in
theorem S_X12_readWillLine_78 {g : Gx} (x2 : Int32) (x3 : Bool) (y1 : Int32) (y2 : Int32) (I : MI) (L : ML) (res : Bool × MI × ML) (h : f_X12_readWillLine_78 x2 x3 y1 y2 I L = some res) : E g 48 0 mX12_readWillLine 78 [(0, .ref 149), (2, .int x2), (3, .int (bI x3))] [.int y2, .int y1, .ref 150] (I, L) (.inl (some (.int (bI res.1)))) (res.2.1, res.2.2) := by
  unfold f_X12_readWillLine_78 at h
  replace h := Option.bind_eq_some_iff.mp h
  obtain ⟨I1, hI1, h⟩ := h
  refine E_stI (M := mX12_readWillLine) 79 rfl dX12_readWillLine_78 shc_150 hI1 ?_
  refine E_iload_n (M := mX12_readWillLine) 80 rfl dX12_readWillLine_79 rfl 2 rfl ?_
  refine E_if_eqB (M := mX12_readWillLine) 96 83 (by decide) rfl dX12_readWillLine_80 (fun c2 => ?_) (fun c2 => ?_)
  · rw [if_neg (by rw [c2]; decide)] at h
    refine E_sub (M := mX12_readWillLine) (lv' := [(0, .ref 149), (2, .int x2)]) [0, 1] rfl ?_
    exact S_X12_readWillLine_96 x2 I1 L _ h
  · rw [if_pos c2] at h
    refine E_aload_n (M := mX12_readWillLine) 84 rfl dX12_readWillLine_83 rfl 0 rfl ?_
    refine E_gR (M := mX12_readWillLine) 150 87 rfl dX12_readWillLine_84 shc_149 fl_X12_13 rfl (by decide) (by decide) ?_
    refine E_iload_n (M := mX12_readWillLine) 88 rfl dX12_readWillLine_87 rfl 1 rfl ?_
    refine E_iconst (M := mX12_readWillLine) (v := 1) 89 rfl dX12_readWillLine_88 (by decide) ?_
    refine E_iadd (M := mX12_readWillLine) 90 rfl dX12_readWillLine_89 ?_
    replace h := Option.bind_eq_some_iff.mp h
    obtain ⟨v3, hv3, h⟩ := h
    refine E_ldI (M := mX12_readWillLine) 91 rfl dX12_readWillLine_90 shc_150 hv3 ?_
    refine E_if_ge (M := mX12_readWillLine) 96 94 (by decide) rfl dX12_readWillLine_91 (fun c4 => ?_) (fun c4 => ?_)
    · rw [if_pos c4] at h
      refine E_sub (M := mX12_readWillLine) (lv' := [(0, .ref 149), (2, .int x2)]) [0, 1] rfl ?_
      exact S_X12_readWillLine_96 x2 I1 L _ h
    · rw [if_neg c4] at h
      refine E_iconst (M := mX12_readWillLine) (v := 0) 95 rfl dX12_readWillLine_94 (by decide) ?_
      cases h
      exact E_zret (M := mX12_readWillLine) (x := false) rfl dX12_readWillLine_95
def f_X12_readWillLine_30 (x2 : Int32) (x3 : Bool) (I : MI) (L : ML) : Option (Bool × MI × ML) := Option.bind (f_X12_number 0 5 I L) fun w1 => Option.bind (stI w1.2.1 150 2143 x2 w1.1) fun I2 => Option.bind (ldI I2 150 2143 x2) fun v3 => if 0 ≤ v3 then (if x3 = true then (Option.bind (f_X12_after 57 0 999 I2 w1.2.2) fun w6 => f_X12_readWillLine_78 x2 x3 (x2 + 1) w6.1 w6.2.1 w6.2.2) else (f_X12_readWillLine_78 x2 x3 (x2 + 1) ((-1)) I2 w1.2.2)) else (some (false, I2, w1.2.2))
set_option maxRecDepth 100000 in
theorem S_X12_readWillLine_30 {g : Gx} (x2 : Int32) (x3 : Bool) (I : MI) (L : ML) (res : Bool × MI × ML) (h : f_X12_readWillLine_30 x2 x3 I L = some res) : E g 48 0 mX12_readWillLine 30 [(0, .ref 149), (2, .int x2), (3, .int (bI x3))] [] (I, L) (.inl (some (.int (bI res.1)))) (res.2.1, res.2.2) := by
  unfold f_X12_readWillLine_30 at h
  refine E_aload_n (M := mX12_readWillLine) 31 rfl dX12_readWillLine_30 rfl 0 rfl ?_
  refine E_gR (M := mX12_readWillLine) 150 34 rfl dX12_readWillLine_31 shc_149 fl_X12_13 rfl (by decide) (by decide) ?_
  refine E_iload_n (M := mX12_readWillLine) 35 rfl dX12_readWillLine_34 rfl 1 rfl ?_
  refine E_aload_n (M := mX12_readWillLine) 36 rfl dX12_readWillLine_35 rfl 0 rfl ?_
  refine E_iconst (M := mX12_readWillLine) (v := 0) 37 rfl dX12_readWillLine_36 (by decide) ?_
  refine E_iconst (M := mX12_readWillLine) (v := 5) 38 rfl dX12_readWillLine_37 (by decide) ?_
  replace h := Option.bind_eq_some_iff.mp h
  obtain ⟨w1, hw1, h⟩ := h
  refine E_cV1 (M := mX12_readWillLine) (As := [.int 0, .int 5]) 41 rfl dX12_readWillLine_38 shc_149 ck_X12_108 cv_X12_number rfl (by decide) (Nat.le_of_ble_eq_true rfl) (C_X12_number (g := g) hw1) rfl ?_
  replace h := Option.bind_eq_some_iff.mp h
  obtain ⟨I2, hI2, h⟩ := h
  refine E_stI (M := mX12_readWillLine) 42 rfl dX12_readWillLine_41 shc_150 hI2 ?_
  refine E_aload_n (M := mX12_readWillLine) 43 rfl dX12_readWillLine_42 rfl 0 rfl ?_
  refine E_gR (M := mX12_readWillLine) 150 46 rfl dX12_readWillLine_43 shc_149 fl_X12_13 rfl (by decide) (by decide) ?_
  refine E_iload_n (M := mX12_readWillLine) 47 rfl dX12_readWillLine_46 rfl 1 rfl ?_
  replace h := Option.bind_eq_some_iff.mp h
  obtain ⟨v3, hv3, h⟩ := h
  refine E_ldI (M := mX12_readWillLine) 48 rfl dX12_readWillLine_47 shc_150 hv3 ?_
  refine E_if_ge (M := mX12_readWillLine) 53 51 (by decide) rfl dX12_readWillLine_48 (fun c4 => ?_) (fun c4 => ?_)
  · rw [if_pos c4] at h
    refine E_aload_n (M := mX12_readWillLine) 54 rfl dX12_readWillLine_53 rfl 0 rfl ?_
    refine E_gR (M := mX12_readWillLine) 150 57 rfl dX12_readWillLine_54 shc_149 fl_X12_13 rfl (by decide) (by decide) ?_
    refine E_iload_n (M := mX12_readWillLine) 58 rfl dX12_readWillLine_57 rfl 1 rfl ?_
    refine E_iconst (M := mX12_readWillLine) (v := 1) 59 rfl dX12_readWillLine_58 (by decide) ?_
    refine E_iadd (M := mX12_readWillLine) 60 rfl dX12_readWillLine_59 ?_
    refine E_iload_n (M := mX12_readWillLine) 61 rfl dX12_readWillLine_60 rfl 2 rfl ?_
    refine E_if_eqB (M := mX12_readWillLine) 77 64 (by decide) rfl dX12_readWillLine_61 (fun c5 => ?_) (fun c5 => ?_)
    · rw [if_neg (by rw [c5]; decide)] at h
      refine E_iconst (M := mX12_readWillLine) (v := (-1)) 78 rfl dX12_readWillLine_77 (by decide) ?_
      refine E_sub (M := mX12_readWillLine) (lv' := [(0, .ref 149), (2, .int x2), (3, .int (bI x3))]) [0, 1, 2] rfl ?_
      exact S_X12_readWillLine_78 x2 x3 (x2 + 1) ((-1)) I2 w1.2.2 _ h
    · rw [if_pos c5] at h
      refine E_aload_n (M := mX12_readWillLine) 65 rfl dX12_readWillLine_64 rfl 0 rfl ?_
      refine E_ldcS (M := mX12_readWillLine) 57 (by decide) 67 rfl dX12_readWillLine_65 rfl ?_
      refine E_iconst (M := mX12_readWillLine) (v := 0) 68 rfl dX12_readWillLine_67 (by decide) ?_
      refine E_sipush (M := mX12_readWillLine) (v := 999) 71 rfl dX12_readWillLine_68 (by decide) ?_
      replace h := Option.bind_eq_some_iff.mp h
      obtain ⟨w6, hw6, h⟩ := h
      refine E_cV1 (M := mX12_readWillLine) (As := [.ref (100000 + 57), .int 0, .int 999]) 74 rfl dX12_readWillLine_71 shc_149 ck_X12_118 cv_X12_after rfl (by decide) (Nat.le_of_ble_eq_true rfl) (C_X12_after (g := g) (by decide) hw6) rfl ?_
      refine E_goto (M := mX12_readWillLine) 78 (by decide) dX12_readWillLine_74 ?_
      refine E_sub (M := mX12_readWillLine) (lv' := [(0, .ref 149), (2, .int x2), (3, .int (bI x3))]) [0, 1, 2] rfl ?_
      exact S_X12_readWillLine_78 x2 x3 (x2 + 1) w6.1 w6.2.1 w6.2.2 _ h
  · rw [if_neg c4] at h
    refine E_iconst (M := mX12_readWillLine) (v := 0) 52 rfl dX12_readWillLine_51 (by decide) ?_
    cases h
    exact E_zret (M := mX12_readWillLine) (x := false) rfl dX12_readWillLine_52
def f_X12_readWillLine (x1 : Int32) (I : MI) (L : ML) : Option (Bool × MI × ML) := Option.bind (f_X12_isWord 55 I L) fun v1 => if v1 = true then (f_X12_readWillLine_30 (1295 + (4 * x1)) v1 I L) else (Option.bind (f_X12_isWord 56 I L) fun v3 => if v3 = true then (f_X12_readWillLine_30 (1295 + (4 * x1)) v1 I L) else (some (false, I, L)))
set_option maxRecDepth 100000 in
theorem S_X12_readWillLine {g : Gx} (x1 : Int32) (I : MI) (L : ML) (res : Bool × MI × ML) (h : f_X12_readWillLine x1 I L = some res) : E g 48 0 mX12_readWillLine 0 [(0, .ref 149), (1, .int x1)] [] (I, L) (.inl (some (.int (bI res.1)))) (res.2.1, res.2.2) := by
  unfold f_X12_readWillLine at h
  refine E_sipush (M := mX12_readWillLine) (v := 1295) 3 rfl dX12_readWillLine_0 (by decide) ?_
  refine E_iconst (M := mX12_readWillLine) (v := 4) 4 rfl dX12_readWillLine_3 (by decide) ?_
  refine E_iload_n (M := mX12_readWillLine) 5 rfl dX12_readWillLine_4 rfl 1 rfl ?_
  refine E_imul (M := mX12_readWillLine) 6 rfl dX12_readWillLine_5 ?_
  refine E_iadd (M := mX12_readWillLine) 7 rfl dX12_readWillLine_6 ?_
  refine E_istore_n (M := mX12_readWillLine) (lv' := [(2, .int (1295 + (4 * x1))), (0, .ref 149), (1, .int x1)]) 8 rfl dX12_readWillLine_7 rfl (Nat.le_of_ble_eq_true rfl) rfl ?_
  refine E_aload_n (M := mX12_readWillLine) 9 rfl dX12_readWillLine_8 rfl 1 rfl ?_
  refine E_ldcS (M := mX12_readWillLine) 55 (by decide) 11 rfl dX12_readWillLine_9 rfl ?_
  replace h := Option.bind_eq_some_iff.mp h
  obtain ⟨v1, hv1, h⟩ := h
  refine E_cV1 (M := mX12_readWillLine) (As := [.ref (100000 + 55)]) 14 rfl dX12_readWillLine_11 shc_149 ck_X12_101 cv_X12_isWord rfl (by decide) (Nat.le_of_ble_eq_true rfl) (C_X12_isWord (g := g) (by decide) hv1) rfl ?_
  refine E_istore_n (M := mX12_readWillLine) (lv' := [(3, .int (bI v1)), (2, .int (1295 + (4 * x1))), (0, .ref 149), (1, .int x1)]) 15 rfl dX12_readWillLine_14 rfl (Nat.le_of_ble_eq_true rfl) rfl ?_
  refine E_iload_n (M := mX12_readWillLine) 16 rfl dX12_readWillLine_15 rfl 0 rfl ?_
  refine E_if_neB (M := mX12_readWillLine) 30 19 (by decide) rfl dX12_readWillLine_16 (fun c2 => ?_) (fun c2 => ?_)
  · rw [if_pos c2] at h
    refine E_sub (M := mX12_readWillLine) (lv' := [(0, .ref 149), (2, .int (1295 + (4 * x1))), (3, .int (bI v1))]) [2, 1, 0] rfl ?_
    exact S_X12_readWillLine_30 (1295 + (4 * x1)) v1 I L _ h
  · rw [if_neg (by rw [c2]; decide)] at h
    refine E_aload_n (M := mX12_readWillLine) 20 rfl dX12_readWillLine_19 rfl 2 rfl ?_
    refine E_ldcS (M := mX12_readWillLine) 56 (by decide) 22 rfl dX12_readWillLine_20 rfl ?_
    replace h := Option.bind_eq_some_iff.mp h
    obtain ⟨v3, hv3, h⟩ := h
    refine E_cV1 (M := mX12_readWillLine) (As := [.ref (100000 + 56)]) 25 rfl dX12_readWillLine_22 shc_149 ck_X12_101 cv_X12_isWord rfl (by decide) (Nat.le_of_ble_eq_true rfl) (C_X12_isWord (g := g) (by decide) hv3) rfl ?_
    refine E_if_neB (M := mX12_readWillLine) 30 28 (by decide) rfl dX12_readWillLine_25 (fun c4 => ?_) (fun c4 => ?_)
    · rw [if_pos c4] at h
      refine E_sub (M := mX12_readWillLine) (lv' := [(0, .ref 149), (2, .int (1295 + (4 * x1))), (3, .int (bI v1))]) [2, 1, 0] rfl ?_
      exact S_X12_readWillLine_30 (1295 + (4 * x1)) v1 I L _ h
    · rw [if_neg (by rw [c4]; decide)] at h
      refine E_iconst (M := mX12_readWillLine) (v := 0) 29 rfl dX12_readWillLine_28 (by decide) ?_
      cases h
      exact E_zret (M := mX12_readWillLine) (x := false) rfl dX12_readWillLine_29
theorem C_X12_readWillLine {g : Gx} {x1 : Int32} {I : MI} {L : ML} {res : Bool × MI × ML} (h : f_X12_readWillLine x1 I L = some res) : Ent g 48 0 mX12_readWillLine [.ref 149, .int x1] (I, L) (.inl (some (.int (bI res.1)))) (res.2.1, res.2.2) := Ent_of (by decide +kernel) (Nat.le_of_ble_eq_true rfl) (S_X12_readWillLine x1 I L _ h)
def f_X12_readLine_46 (y0 : Bool) (I : MI) (L : ML) : Option (Bool × MI × ML) := some (y0, I, L)
set_option maxRecDepth 100000 in
theorem S_X12_readLine_46 {g : Gx} (y0 : Bool) (I : MI) (L : ML) (res : Bool × MI × ML) (h : f_X12_readLine_46 y0 I L = some res) : E g 49 0 mX12_readLine 46 [] [.int (bI y0)] (I, L) (.inl (some (.int (bI res.1)))) (res.2.1, res.2.2) := by
  unfold f_X12_readLine_46 at h
  cases h
  exact E_zret (M := mX12_readLine) (x := y0) rfl dX12_readLine_46
def f_X12_readLine_45 (I : MI) (L : ML) : Option (Bool × MI × ML) := f_X12_readLine_46 false I L
set_option maxRecDepth 100000 in
theorem S_X12_readLine_45 {g : Gx} (I : MI) (L : ML) (res : Bool × MI × ML) (h : f_X12_readLine_45 I L = some res) : E g 49 0 mX12_readLine 45 [] [] (I, L) (.inl (some (.int (bI res.1)))) (res.2.1, res.2.2) := by
  unfold f_X12_readLine_45 at h
  refine E_iconst (M := mX12_readLine) (v := 0) 46 rfl dX12_readLine_45 (by decide) ?_
  refine E_sub (M := mX12_readLine) (lv' := []) [] rfl ?_
  exact S_X12_readLine_46 false I L _ h
def f_X12_readLine_41 (I : MI) (L : ML) : Option (Bool × MI × ML) := f_X12_readLine_46 true I L
set_option maxRecDepth 100000 in
theorem S_X12_readLine_41 {g : Gx} (I : MI) (L : ML) (res : Bool × MI × ML) (h : f_X12_readLine_41 I L = some res) : E g 49 0 mX12_readLine 41 [] [] (I, L) (.inl (some (.int (bI res.1)))) (res.2.1, res.2.2) := by
  unfold f_X12_readLine_41 at h
  refine E_iconst (M := mX12_readLine) (v := 1) 42 rfl dX12_readLine_41 (by decide) ?_
  refine E_goto (M := mX12_readLine) 46 (by decide) dX12_readLine_42 ?_
  refine E_sub (M := mX12_readLine) (lv' := []) [] rfl ?_
  exact S_X12_readLine_46 true I L _ h
def f_X12_readLine_16 (x1 : Bool) (x2 : Int32) (y0 : Int32) (y1 : Int32) (I : MI) (L : ML) : Option (Bool × MI × ML) := if y1 ≤ y0 then (f_X12_readLine_45 I L) else (if x1 = true then (Option.bind (f_X12_readHouseLine I L) fun w5 => if w5.1 = true then (f_X12_readLine_41 w5.2.1 w5.2.2) else (f_X12_readLine_45 w5.2.1 w5.2.2)) else (Option.bind (f_X12_readWillLine x2 I L) fun w3 => if w3.1 = true then (f_X12_readLine_41 w3.2.1 w3.2.2) else (f_X12_readLine_45 w3.2.1 w3.2.2)))
set_option maxRecDepth 100000 in
theorem S_X12_readLine_16 {g : Gx} (x1 : Bool) (x2 : Int32) (y0 : Int32) (y1 : Int32) (I : MI) (L : ML) (res : Bool × MI × ML) (h : f_X12_readLine_16 x1 x2 y0 y1 I L = some res) : E g 49 0 mX12_readLine 16 [(0, .ref 149), (1, .int (bI x1)), (2, .int x2)] [.int y1, .int y0] (I, L) (.inl (some (.int (bI res.1)))) (res.2.1, res.2.2) := by
  unfold f_X12_readLine_16 at h
  refine E_icmp_ge (M := mX12_readLine) 45 19 (by decide) rfl dX12_readLine_16 (fun c1 => ?_) (fun c1 => ?_)
  · rw [if_pos c1] at h
    refine E_sub (M := mX12_readLine) (lv' := []) [] rfl ?_
    exact S_X12_readLine_45 I L _ h
  · rw [if_neg c1] at h
    refine E_iload_n (M := mX12_readLine) 20 rfl dX12_readLine_19 rfl 1 rfl ?_
    refine E_if_eqB (M := mX12_readLine) 33 23 (by decide) rfl dX12_readLine_20 (fun c2 => ?_) (fun c2 => ?_)
    · rw [if_neg (by rw [c2]; decide)] at h
      refine E_aload_n (M := mX12_readLine) 34 rfl dX12_readLine_33 rfl 0 rfl ?_
      refine E_iload_n (M := mX12_readLine) 35 rfl dX12_readLine_34 rfl 2 rfl ?_
      replace h := Option.bind_eq_some_iff.mp h
      obtain ⟨w3, hw3, h⟩ := h
      refine E_cV1 (M := mX12_readLine) (As := [.int x2]) 38 rfl dX12_readLine_35 shc_149 ck_X12_231 cv_X12_readWillLine rfl (by decide) (Nat.le_of_ble_eq_true rfl) (C_X12_readWillLine (g := g) hw3) rfl ?_
      refine E_if_eqB (M := mX12_readLine) 45 41 (by decide) rfl dX12_readLine_38 (fun c4 => ?_) (fun c4 => ?_)
      · rw [if_neg (by rw [c4]; decide)] at h
        refine E_sub (M := mX12_readLine) (lv' := []) [] rfl ?_
        exact S_X12_readLine_45 w3.2.1 w3.2.2 _ h
      · rw [if_pos c4] at h
        refine E_sub (M := mX12_readLine) (lv' := []) [] rfl ?_
        exact S_X12_readLine_41 w3.2.1 w3.2.2 _ h
    · rw [if_pos c2] at h
      refine E_aload_n (M := mX12_readLine) 24 rfl dX12_readLine_23 rfl 0 rfl ?_
      replace h := Option.bind_eq_some_iff.mp h
      obtain ⟨w5, hw5, h⟩ := h
      refine E_cV1 (M := mX12_readLine) (As := []) 27 rfl dX12_readLine_24 shc_149 ck_X12_228 cv_X12_readHouseLine rfl (by decide) (Nat.le_of_ble_eq_true rfl) (C_X12_readHouseLine (g := g) hw5) rfl ?_
      refine E_if_eqB (M := mX12_readLine) 45 30 (by decide) rfl dX12_readLine_27 (fun c6 => ?_) (fun c6 => ?_)
      · rw [if_neg (by rw [c6]; decide)] at h
        refine E_sub (M := mX12_readLine) (lv' := []) [] rfl ?_
        exact S_X12_readLine_45 w5.2.1 w5.2.2 _ h
      · rw [if_pos c6] at h
        refine E_goto (M := mX12_readLine) 41 (by decide) dX12_readLine_30 ?_
        refine E_sub (M := mX12_readLine) (lv' := []) [] rfl ?_
        exact S_X12_readLine_41 w5.2.1 w5.2.2 _ h
def f_X12_readLine (x1 : Bool) (x2 : Int32) (I : MI) (L : ML) : Option (Bool × MI × ML) := Option.bind (f_X12_letters I L) fun w1 => if x1 = true then (f_X12_readLine_16 x1 x2 x2 14 w1.1 w1.2) else (f_X12_readLine_16 x1 x2 x2 12 w1.1 w1.2)
set_option maxRecDepth 100000 in
theorem S_X12_readLine {g : Gx} (x1 : Bool) (x2 : Int32) (I : MI) (L : ML) (res : Bool × MI × ML) (h : f_X12_readLine x1 x2 I L = some res) : E g 49 0 mX12_readLine 0 [(0, .ref 149), (1, .int (bI x1)), (2, .int x2)] [] (I, L) (.inl (some (.int (bI res.1)))) (res.2.1, res.2.2) := by
  unfold f_X12_readLine at h
  refine E_aload_n (M := mX12_readLine) 1 rfl dX12_readLine_0 rfl 0 rfl ?_
  replace h := Option.bind_eq_some_iff.mp h
  obtain ⟨w1, hw1, h⟩ := h
  refine E_cV0 (M := mX12_readLine) (As := []) 4 rfl dX12_readLine_1 shc_149 ck_X12_98 cv_X12_letters rfl (by decide) (Nat.le_of_ble_eq_true rfl) (C_X12_letters (g := g) hw1) rfl ?_
  refine E_iload_n (M := mX12_readLine) 5 rfl dX12_readLine_4 rfl 2 rfl ?_
  refine E_iload_n (M := mX12_readLine) 6 rfl dX12_readLine_5 rfl 1 rfl ?_
  refine E_if_eqB (M := mX12_readLine) 14 9 (by decide) rfl dX12_readLine_6 (fun c2 => ?_) (fun c2 => ?_)
  · rw [if_neg (by rw [c2]; decide)] at h
    refine E_bipush (M := mX12_readLine) (v := 12) 16 rfl dX12_readLine_14 (by decide) ?_
    refine E_sub (M := mX12_readLine) (lv' := [(0, .ref 149), (1, .int (bI x1)), (2, .int x2)]) [0, 1, 2] rfl ?_
    exact S_X12_readLine_16 x1 x2 x2 12 w1.1 w1.2 _ h
  · rw [if_pos c2] at h
    refine E_bipush (M := mX12_readLine) (v := 14) 11 rfl dX12_readLine_9 (by decide) ?_
    refine E_goto (M := mX12_readLine) 16 (by decide) dX12_readLine_11 ?_
    refine E_sub (M := mX12_readLine) (lv' := [(0, .ref 149), (1, .int (bI x1)), (2, .int x2)]) [0, 1, 2] rfl ?_
    exact S_X12_readLine_16 x1 x2 x2 14 w1.1 w1.2 _ h
theorem C_X12_readLine {g : Gx} {x1 : Bool} {x2 : Int32} {I : MI} {L : ML} {res : Bool × MI × ML} (h : f_X12_readLine x1 x2 I L = some res) : Ent g 49 0 mX12_readLine [.ref 149, .int (bI x1), .int x2] (I, L) (.inl (some (.int (bI res.1)))) (res.2.1, res.2.2) := Ent_of (by decide +kernel) (Nat.le_of_ble_eq_true rfl) (S_X12_readLine x1 x2 I L _ h)
def f_X12_readAll_28 : Nat → Bool → Int32 → MI → ML → Option (Int32 × MI × ML)
  | 0, _, _, _, _ => none
  | n + 1, x1, x2, I, L => Option.bind (f_X12_readLine x1 x2 I L) fun w1 => if w1.1 = true then (Option.bind (f_X12_blanks w1.2.1 w1.2.2) fun w3 => if (w3.1 149 9) = (w3.1 149 10) then (some (x2 + 1, w3.1, w3.2)) else (Option.bind (f_X12_isAt 59 59 w3.1 w3.2) fun v5 => if v5 = true then (Option.bind (pfI w3.1 149 9 ((w3.1 149 9) + 1)) fun I7 => f_X12_readAll_28 n x1 (x2 + 1) I7 w3.2) else (some ((-1), w3.1, w3.2)))) else (some ((-1), w1.2.1, w1.2.2))
set_option maxRecDepth 100000 in
theorem S_X12_readAll_28 {g : Gx} : ∀ (n : Nat) (x1 : Bool) (x2 : Int32) (I : MI) (L : ML) (res : Int32 × MI × ML), f_X12_readAll_28 n x1 x2 I L = some res → E g 50 0 mX12_readAll 28 [(0, .ref 149), (1, .int (bI x1)), (2, .int x2)] [] (I, L) (.inl (some (.int res.1))) (res.2.1, res.2.2) := by
  intro n
  induction n with
  | zero =>
    intros
    rename_i h
    cases h
  | succ n ih =>
    intro x1 x2 I L res h
    rw [f_X12_readAll_28] at h
    refine E_aload_n (M := mX12_readAll) 29 rfl dX12_readAll_28 rfl 0 rfl ?_
    refine E_iload_n (M := mX12_readAll) 30 rfl dX12_readAll_29 rfl 1 rfl ?_
    refine E_iload_n (M := mX12_readAll) 31 rfl dX12_readAll_30 rfl 2 rfl ?_
    replace h := Option.bind_eq_some_iff.mp h
    obtain ⟨w1, hw1, h⟩ := h
    refine E_cV1 (M := mX12_readAll) (As := [.int (bI x1), .int x2]) 34 rfl dX12_readAll_31 shc_149 ck_X12_237 cv_X12_readLine rfl (by decide) (Nat.le_of_ble_eq_true rfl) (C_X12_readLine (g := g) hw1) rfl ?_
    refine E_if_neB (M := mX12_readAll) 39 37 (by decide) rfl dX12_readAll_34 (fun c2 => ?_) (fun c2 => ?_)
    · rw [if_pos c2] at h
      refine E_aload_n (M := mX12_readAll) 40 rfl dX12_readAll_39 rfl 0 rfl ?_
      replace h := Option.bind_eq_some_iff.mp h
      obtain ⟨w3, hw3, h⟩ := h
      refine E_cV0 (M := mX12_readAll) (As := []) 43 rfl dX12_readAll_40 shc_149 ck_X12_86 cv_X12_blanks rfl (by decide) (Nat.le_of_ble_eq_true rfl) (C_X12_blanks (g := g) hw3) rfl ?_
      refine E_aload_n (M := mX12_readAll) 44 rfl dX12_readAll_43 rfl 0 rfl ?_
      refine E_gI (M := mX12_readAll) 47 rfl dX12_readAll_44 shc_149 fl_X12_73 rfl ?_
      refine E_aload_n (M := mX12_readAll) 48 rfl dX12_readAll_47 rfl 0 rfl ?_
      refine E_gI (M := mX12_readAll) 51 rfl dX12_readAll_48 shc_149 fl_X12_76 rfl ?_
      refine E_icmp_ne (M := mX12_readAll) 58 54 (by decide) rfl dX12_readAll_51 (fun c4 => ?_) (fun c4 => ?_)
      · rw [if_neg c4] at h
        refine E_aload_n (M := mX12_readAll) 59 rfl dX12_readAll_58 rfl 0 rfl ?_
        refine E_bipush (M := mX12_readAll) (v := 59) 61 rfl dX12_readAll_59 (by decide) ?_
        refine E_bipush (M := mX12_readAll) (v := 59) 63 rfl dX12_readAll_61 (by decide) ?_
        replace h := Option.bind_eq_some_iff.mp h
        obtain ⟨v5, hv5, h⟩ := h
        refine E_cV1 (M := mX12_readAll) (As := [.int 59, .int 59]) 66 rfl dX12_readAll_63 shc_149 ck_X12_79 cv_X12_isAt rfl (by decide) (Nat.le_of_ble_eq_true rfl) (C_X12_isAt (g := g) hv5) rfl ?_
        refine E_if_neB (M := mX12_readAll) 71 69 (by decide) rfl dX12_readAll_66 (fun c6 => ?_) (fun c6 => ?_)
        · rw [if_pos c6] at h
          refine E_aload_n (M := mX12_readAll) 72 rfl dX12_readAll_71 rfl 0 rfl ?_
          refine E_dup (M := mX12_readAll) 73 rfl dX12_readAll_72 rfl ?_
          refine E_gI (M := mX12_readAll) 76 rfl dX12_readAll_73 shc_149 fl_X12_73 rfl ?_
          refine E_iconst (M := mX12_readAll) (v := 1) 77 rfl dX12_readAll_76 (by decide) ?_
          refine E_iadd (M := mX12_readAll) 78 rfl dX12_readAll_77 ?_
          replace h := Option.bind_eq_some_iff.mp h
          obtain ⟨I7, hI7, h⟩ := h
          refine E_pfI (M := mX12_readAll) 81 rfl dX12_readAll_78 shc_149 fl_X12_73 rfl hI7 ?_
          refine E_iinc (M := mX12_readAll) (j := 2) (v := x2 + 1) (lv' := [(2, .int (x2 + 1)), (0, .ref 149), (1, .int (bI x1))]) 84 rfl dX12_readAll_81 rfl rfl (Nat.le_of_ble_eq_true rfl) rfl ?_
          refine E_goto (M := mX12_readAll) 28 (by decide) dX12_readAll_84 ?_
          refine E_sub (M := mX12_readAll) (lv' := [(0, .ref 149), (1, .int (bI x1)), (2, .int (x2 + 1))]) [1, 2, 0] rfl ?_
          exact ih x1 (x2 + 1) I7 w3.2 _ h
        · rw [if_neg (by rw [c6]; decide)] at h
          refine E_iconst (M := mX12_readAll) (v := (-1)) 70 rfl dX12_readAll_69 (by decide) ?_
          cases h
          exact E_iret (M := mX12_readAll) rfl dX12_readAll_70
      · rw [if_pos c4] at h
        refine E_iload_n (M := mX12_readAll) 55 rfl dX12_readAll_54 rfl 2 rfl ?_
        refine E_iconst (M := mX12_readAll) (v := 1) 56 rfl dX12_readAll_55 (by decide) ?_
        refine E_iadd (M := mX12_readAll) 57 rfl dX12_readAll_56 ?_
        cases h
        exact E_iret (M := mX12_readAll) rfl dX12_readAll_57
    · rw [if_neg (by rw [c2]; decide)] at h
      refine E_iconst (M := mX12_readAll) (v := (-1)) 38 rfl dX12_readAll_37 (by decide) ?_
      cases h
      exact E_iret (M := mX12_readAll) rfl dX12_readAll_38
def f_X12_readAll (x1 : Bool) (I : MI) (L : ML) : Option (Int32 × MI × ML) := Option.bind (f_X12_uses I L) fun w1 => Option.bind (pfI w1.1 149 15 0) fun I2 => Option.bind (f_X12_blanks I2 w1.2) fun w3 => if (w3.1 149 9) = (w3.1 149 10) then (some (0, w3.1, w3.2)) else (f_X12_readAll_28 FU x1 0 w3.1 w3.2)
set_option maxRecDepth 100000 in
theorem S_X12_readAll {g : Gx} (x1 : Bool) (I : MI) (L : ML) (res : Int32 × MI × ML) (h : f_X12_readAll x1 I L = some res) : E g 50 0 mX12_readAll 0 [(0, .ref 149), (1, .int (bI x1))] [] (I, L) (.inl (some (.int res.1))) (res.2.1, res.2.2) := by
  unfold f_X12_readAll at h
  refine E_aload_n (M := mX12_readAll) 1 rfl dX12_readAll_0 rfl 0 rfl ?_
  replace h := Option.bind_eq_some_iff.mp h
  obtain ⟨w1, hw1, h⟩ := h
  refine E_cV0 (M := mX12_readAll) (As := []) 4 rfl dX12_readAll_1 shc_149 ck_X12_234 cv_X12_uses rfl (by decide) (Nat.le_of_ble_eq_true rfl) (C_X12_uses (g := g) hw1) rfl ?_
  refine E_aload_n (M := mX12_readAll) 5 rfl dX12_readAll_4 rfl 0 rfl ?_
  refine E_iconst (M := mX12_readAll) (v := 0) 6 rfl dX12_readAll_5 (by decide) ?_
  replace h := Option.bind_eq_some_iff.mp h
  obtain ⟨I2, hI2, h⟩ := h
  refine E_pfI (M := mX12_readAll) 9 rfl dX12_readAll_6 shc_149 fl_X12_171 rfl hI2 ?_
  refine E_aload_n (M := mX12_readAll) 10 rfl dX12_readAll_9 rfl 0 rfl ?_
  replace h := Option.bind_eq_some_iff.mp h
  obtain ⟨w3, hw3, h⟩ := h
  refine E_cV0 (M := mX12_readAll) (As := []) 13 rfl dX12_readAll_10 shc_149 ck_X12_86 cv_X12_blanks rfl (by decide) (Nat.le_of_ble_eq_true rfl) (C_X12_blanks (g := g) hw3) rfl ?_
  refine E_aload_n (M := mX12_readAll) 14 rfl dX12_readAll_13 rfl 0 rfl ?_
  refine E_gI (M := mX12_readAll) 17 rfl dX12_readAll_14 shc_149 fl_X12_73 rfl ?_
  refine E_aload_n (M := mX12_readAll) 18 rfl dX12_readAll_17 rfl 0 rfl ?_
  refine E_gI (M := mX12_readAll) 21 rfl dX12_readAll_18 shc_149 fl_X12_76 rfl ?_
  refine E_icmp_ne (M := mX12_readAll) 26 24 (by decide) rfl dX12_readAll_21 (fun c4 => ?_) (fun c4 => ?_)
  · rw [if_neg c4] at h
    refine E_iconst (M := mX12_readAll) (v := 0) 27 rfl dX12_readAll_26 (by decide) ?_
    refine E_istore_n (M := mX12_readAll) (lv' := [(2, .int 0), (0, .ref 149), (1, .int (bI x1))]) 28 rfl dX12_readAll_27 rfl (Nat.le_of_ble_eq_true rfl) rfl ?_
    refine E_sub (M := mX12_readAll) (lv' := [(0, .ref 149), (1, .int (bI x1)), (2, .int 0)]) [1, 2, 0] rfl ?_
    exact S_X12_readAll_28 FU x1 0 w3.1 w3.2 _ h
  · rw [if_pos c4] at h
    refine E_iconst (M := mX12_readAll) (v := 0) 25 rfl dX12_readAll_24 (by decide) ?_
    cases h
    exact E_iret (M := mX12_readAll) rfl dX12_readAll_25
theorem C_X12_readAll {g : Gx} {x1 : Bool} {I : MI} {L : ML} {res : Int32 × MI × ML} (h : f_X12_readAll x1 I L = some res) : Ent g 50 0 mX12_readAll [.ref 149, .int (bI x1)] (I, L) (.inl (some (.int res.1))) (res.2.1, res.2.2) := Ent_of (by decide +kernel) (Nat.le_of_ble_eq_true rfl) (S_X12_readAll x1 I L _ h)
def f_X12_house_92 : Nat → Int32 → MI → ML → Option (Int32 × MI × ML)
  | 0, _, _, _ => none
  | n + 1, x2, I, L => if 1294 ≤ x2 then (some (0, I, L)) else (Option.bind (ldI I 152 1294 x2) fun v2 => Option.bind (stI I 150 2143 x2 v2) fun I3 => f_X12_house_92 n (x2 + 1) I3 L)
set_option maxRecDepth 100000 in
theorem S_X12_house_92 {g : Gx} : ∀ (n : Nat) (x2 : Int32) (I : MI) (L : ML) (res : Int32 × MI × ML), f_X12_house_92 n x2 I L = some res → E g 51 0 mX12_house 92 [(0, .ref 149), (2, .int x2)] [] (I, L) (.inl (some (.int res.1))) (res.2.1, res.2.2) := by
  intro n
  induction n with
  | zero =>
    intros
    rename_i h
    cases h
  | succ n ih =>
    intro x2 I L res h
    rw [f_X12_house_92] at h
    refine E_iload_n (M := mX12_house) 93 rfl dX12_house_92 rfl 1 rfl ?_
    refine E_sipush (M := mX12_house) (v := 1294) 96 rfl dX12_house_93 (by decide) ?_
    refine E_icmp_ge (M := mX12_house) 117 99 (by decide) rfl dX12_house_96 (fun c1 => ?_) (fun c1 => ?_)
    · rw [if_pos c1] at h
      refine E_iconst (M := mX12_house) (v := 0) 118 rfl dX12_house_117 (by decide) ?_
      cases h
      exact E_iret (M := mX12_house) rfl dX12_house_118
    · rw [if_neg c1] at h
      refine E_aload_n (M := mX12_house) 100 rfl dX12_house_99 rfl 0 rfl ?_
      refine E_gR (M := mX12_house) 150 103 rfl dX12_house_100 shc_149 fl_X12_13 rfl (by decide) (by decide) ?_
      refine E_iload_n (M := mX12_house) 104 rfl dX12_house_103 rfl 1 rfl ?_
      refine E_aload_n (M := mX12_house) 105 rfl dX12_house_104 rfl 0 rfl ?_
      refine E_gR (M := mX12_house) 152 108 rfl dX12_house_105 shc_149 fl_X12_20 rfl (by decide) (by decide) ?_
      refine E_iload_n (M := mX12_house) 109 rfl dX12_house_108 rfl 1 rfl ?_
      replace h := Option.bind_eq_some_iff.mp h
      obtain ⟨v2, hv2, h⟩ := h
      refine E_ldI (M := mX12_house) 110 rfl dX12_house_109 shc_152 hv2 ?_
      replace h := Option.bind_eq_some_iff.mp h
      obtain ⟨I3, hI3, h⟩ := h
      refine E_stI (M := mX12_house) 111 rfl dX12_house_110 shc_150 hI3 ?_
      refine E_iinc (M := mX12_house) (j := 1) (v := x2 + 1) (lv' := [(2, .int (x2 + 1)), (0, .ref 149)]) 114 rfl dX12_house_111 rfl rfl (Nat.le_of_ble_eq_true rfl) rfl ?_
      refine E_goto (M := mX12_house) 92 (by decide) dX12_house_114 ?_
      refine E_sub (M := mX12_house) (lv' := [(0, .ref 149), (2, .int (x2 + 1))]) [1, 0] rfl ?_
      exact ih (x2 + 1) I3 L _ h
def f_X12_house_90 (I : MI) (L : ML) : Option (Int32 × MI × ML) := f_X12_house_92 FU 0 I L
set_option maxRecDepth 100000 in
theorem S_X12_house_90 {g : Gx} (I : MI) (L : ML) (res : Int32 × MI × ML) (h : f_X12_house_90 I L = some res) : E g 51 0 mX12_house 90 [(0, .ref 149)] [] (I, L) (.inl (some (.int res.1))) (res.2.1, res.2.2) := by
  unfold f_X12_house_90 at h
  refine E_iconst (M := mX12_house) (v := 0) 91 rfl dX12_house_90 (by decide) ?_
  refine E_istore_n (M := mX12_house) (lv' := [(2, .int 0), (0, .ref 149)]) 92 rfl dX12_house_91 rfl (Nat.le_of_ble_eq_true rfl) rfl ?_
  refine E_sub (M := mX12_house) (lv' := [(0, .ref 149), (2, .int 0)]) [1, 0] rfl ?_
  exact S_X12_house_92 FU 0 I L _ h
def f_X12_house_83 (y1 : Bool) (I : MI) (L : ML) : Option (Int32 × MI × ML) := Option.bind (f_X12_throwsIf y1 2 I L) fun w1 => if w1.1 = true then (f_X12_house_90 w1.2.1 w1.2.2) else (Option.bind (ldI w1.2.1 150 2143 4) fun v3 => Option.bind (stI w1.2.1 150 2143 4 (v3 + 1)) fun I4 => Option.bind (pfI I4 149 6 0) fun I5 => Option.bind (ldI I5 150 2143 4) fun v6 => some (v6, I5, w1.2.2))
set_option maxRecDepth 100000 in
theorem S_X12_house_83 {g : Gx} (y1 : Bool) (I : MI) (L : ML) (res : Int32 × MI × ML) (h : f_X12_house_83 y1 I L = some res) : E g 51 0 mX12_house 83 [(0, .ref 149)] [.int (bI y1), .ref 149] (I, L) (.inl (some (.int res.1))) (res.2.1, res.2.2) := by
  unfold f_X12_house_83 at h
  refine E_iconst (M := mX12_house) (v := 2) 84 rfl dX12_house_83 (by decide) ?_
  replace h := Option.bind_eq_some_iff.mp h
  obtain ⟨w1, hw1, h⟩ := h
  refine E_cV1 (M := mX12_house) (As := [.int (bI y1), .int 2]) 87 rfl dX12_house_84 shc_149 ck_X12_245 cv_X12_throwsIf rfl (by decide) (Nat.le_of_ble_eq_true rfl) (C_X12_throwsIf (g := g) hw1) rfl ?_
  refine E_if_eqB (M := mX12_house) 119 90 (by decide) rfl dX12_house_87 (fun c2 => ?_) (fun c2 => ?_)
  · rw [if_neg (by rw [c2]; decide)] at h
    refine E_aload_n (M := mX12_house) 120 rfl dX12_house_119 rfl 0 rfl ?_
    refine E_gR (M := mX12_house) 150 123 rfl dX12_house_120 shc_149 fl_X12_13 rfl (by decide) (by decide) ?_
    refine E_iconst (M := mX12_house) (v := 4) 124 rfl dX12_house_123 (by decide) ?_
    refine E_dup2 (M := mX12_house) 125 rfl dX12_house_124 rfl rfl ?_
    replace h := Option.bind_eq_some_iff.mp h
    obtain ⟨v3, hv3, h⟩ := h
    refine E_ldI (M := mX12_house) 126 rfl dX12_house_125 shc_150 hv3 ?_
    refine E_iconst (M := mX12_house) (v := 1) 127 rfl dX12_house_126 (by decide) ?_
    refine E_iadd (M := mX12_house) 128 rfl dX12_house_127 ?_
    replace h := Option.bind_eq_some_iff.mp h
    obtain ⟨I4, hI4, h⟩ := h
    refine E_stI (M := mX12_house) 129 rfl dX12_house_128 shc_150 hI4 ?_
    refine E_aload_n (M := mX12_house) 130 rfl dX12_house_129 rfl 0 rfl ?_
    refine E_iconst (M := mX12_house) (v := 0) 131 rfl dX12_house_130 (by decide) ?_
    replace h := Option.bind_eq_some_iff.mp h
    obtain ⟨I5, hI5, h⟩ := h
    refine E_pfI (M := mX12_house) 134 rfl dX12_house_131 shc_149 fl_X12_53 rfl hI5 ?_
    refine E_aload_n (M := mX12_house) 135 rfl dX12_house_134 rfl 0 rfl ?_
    refine E_gR (M := mX12_house) 150 138 rfl dX12_house_135 shc_149 fl_X12_13 rfl (by decide) (by decide) ?_
    refine E_iconst (M := mX12_house) (v := 4) 139 rfl dX12_house_138 (by decide) ?_
    replace h := Option.bind_eq_some_iff.mp h
    obtain ⟨v6, hv6, h⟩ := h
    refine E_ldI (M := mX12_house) 140 rfl dX12_house_139 shc_150 hv6 ?_
    cases h
    exact E_iret (M := mX12_house) rfl dX12_house_140
  · rw [if_pos c2] at h
    refine E_sub (M := mX12_house) (lv' := [(0, .ref 149)]) [0] rfl ?_
    exact S_X12_house_90 w1.2.1 w1.2.2 _ h
def f_X12_house_59 (y1 : Bool) (I : MI) (L : ML) : Option (Int32 × MI × ML) := Option.bind (f_X12_throwsIf y1 1 I L) fun w1 => if w1.1 = true then (f_X12_house_90 w1.2.1 w1.2.2) else (Option.bind (ldI w1.2.1 150 2143 4) fun v3 => if v3 = 10 then (f_X12_house_83 true w1.2.1 w1.2.2) else (f_X12_house_83 false w1.2.1 w1.2.2))
set_option maxRecDepth 100000 in
theorem S_X12_house_59 {g : Gx} (y1 : Bool) (I : MI) (L : ML) (res : Int32 × MI × ML) (h : f_X12_house_59 y1 I L = some res) : E g 51 0 mX12_house 59 [(0, .ref 149)] [.int (bI y1), .ref 149] (I, L) (.inl (some (.int res.1))) (res.2.1, res.2.2) := by
  unfold f_X12_house_59 at h
  refine E_iconst (M := mX12_house) (v := 1) 60 rfl dX12_house_59 (by decide) ?_
  replace h := Option.bind_eq_some_iff.mp h
  obtain ⟨w1, hw1, h⟩ := h
  refine E_cV1 (M := mX12_house) (As := [.int (bI y1), .int 1]) 63 rfl dX12_house_60 shc_149 ck_X12_245 cv_X12_throwsIf rfl (by decide) (Nat.le_of_ble_eq_true rfl) (C_X12_throwsIf (g := g) hw1) rfl ?_
  refine E_if_neB (M := mX12_house) 90 66 (by decide) rfl dX12_house_63 (fun c2 => ?_) (fun c2 => ?_)
  · rw [if_pos c2] at h
    refine E_sub (M := mX12_house) (lv' := [(0, .ref 149)]) [0] rfl ?_
    exact S_X12_house_90 w1.2.1 w1.2.2 _ h
  · rw [if_neg (by rw [c2]; decide)] at h
    refine E_aload_n (M := mX12_house) 67 rfl dX12_house_66 rfl 0 rfl ?_
    refine E_aload_n (M := mX12_house) 68 rfl dX12_house_67 rfl 0 rfl ?_
    refine E_gR (M := mX12_house) 150 71 rfl dX12_house_68 shc_149 fl_X12_13 rfl (by decide) (by decide) ?_
    refine E_iconst (M := mX12_house) (v := 4) 72 rfl dX12_house_71 (by decide) ?_
    replace h := Option.bind_eq_some_iff.mp h
    obtain ⟨v3, hv3, h⟩ := h
    refine E_ldI (M := mX12_house) 73 rfl dX12_house_72 shc_150 hv3 ?_
    refine E_bipush (M := mX12_house) (v := 10) 75 rfl dX12_house_73 (by decide) ?_
    refine E_icmp_ne (M := mX12_house) 82 78 (by decide) rfl dX12_house_75 (fun c4 => ?_) (fun c4 => ?_)
    · rw [if_neg c4] at h
      refine E_iconst (M := mX12_house) (v := 0) 83 rfl dX12_house_82 (by decide) ?_
      refine E_sub (M := mX12_house) (lv' := [(0, .ref 149)]) [0] rfl ?_
      exact S_X12_house_83 false w1.2.1 w1.2.2 _ h
    · rw [if_pos c4] at h
      refine E_iconst (M := mX12_house) (v := 1) 79 rfl dX12_house_78 (by decide) ?_
      refine E_goto (M := mX12_house) 83 (by decide) dX12_house_79 ?_
      refine E_sub (M := mX12_house) (lv' := [(0, .ref 149)]) [0] rfl ?_
      exact S_X12_house_83 true w1.2.1 w1.2.2 _ h
def f_X12_house_46 (x1 : Int32) (y1 : Int32) (I : MI) (L : ML) : Option (Int32 × MI × ML) := Option.bind (pfI I 149 13 y1) fun I1 => if 0 ≤ x1 then (f_X12_house_59 false I1 L) else (f_X12_house_59 true I1 L)
set_option maxRecDepth 100000 in
theorem S_X12_house_46 {g : Gx} (x1 : Int32) (y1 : Int32) (I : MI) (L : ML) (res : Int32 × MI × ML) (h : f_X12_house_46 x1 y1 I L = some res) : E g 51 0 mX12_house 46 [(0, .ref 149), (1, .int x1)] [.int y1, .ref 149] (I, L) (.inl (some (.int res.1))) (res.2.1, res.2.2) := by
  unfold f_X12_house_46 at h
  replace h := Option.bind_eq_some_iff.mp h
  obtain ⟨I1, hI1, h⟩ := h
  refine E_pfI (M := mX12_house) 49 rfl dX12_house_46 shc_149 fl_X12_30 rfl hI1 ?_
  refine E_aload_n (M := mX12_house) 50 rfl dX12_house_49 rfl 0 rfl ?_
  refine E_iload_n (M := mX12_house) 51 rfl dX12_house_50 rfl 1 rfl ?_
  refine E_if_ge (M := mX12_house) 58 54 (by decide) rfl dX12_house_51 (fun c2 => ?_) (fun c2 => ?_)
  · rw [if_pos c2] at h
    refine E_iconst (M := mX12_house) (v := 0) 59 rfl dX12_house_58 (by decide) ?_
    refine E_sub (M := mX12_house) (lv' := [(0, .ref 149)]) [0] rfl ?_
    exact S_X12_house_59 false I1 L _ h
  · rw [if_neg c2] at h
    refine E_iconst (M := mX12_house) (v := 1) 55 rfl dX12_house_54 (by decide) ?_
    refine E_goto (M := mX12_house) 59 (by decide) dX12_house_55 ?_
    refine E_sub (M := mX12_house) (lv' := [(0, .ref 149)]) [0] rfl ?_
    exact S_X12_house_59 true I1 L _ h
def f_X12_house_2 : Nat → Int32 → MI → ML → Option (Int32 × MI × ML)
  | 0, _, _, _ => none
  | n + 1, x1, I, L => if 1294 ≤ x1 then (Option.bind (f_X12_readAll true I L) fun w2 => if 0 ≤ w2.1 then (f_X12_house_46 w2.1 ((-1)) w2.2.1 w2.2.2) else (f_X12_house_46 w2.1 (w2.2.1 149 11) w2.2.1 w2.2.2)) else (Option.bind (ldI I 150 2143 x1) fun v4 => Option.bind (stI I 152 1294 x1 v4) fun I5 => f_X12_house_2 n (x1 + 1) I5 L)
set_option maxRecDepth 100000 in
theorem S_X12_house_2 {g : Gx} : ∀ (n : Nat) (x1 : Int32) (I : MI) (L : ML) (res : Int32 × MI × ML), f_X12_house_2 n x1 I L = some res → E g 51 0 mX12_house 2 [(0, .ref 149), (1, .int x1)] [] (I, L) (.inl (some (.int res.1))) (res.2.1, res.2.2) := by
  intro n
  induction n with
  | zero =>
    intros
    rename_i h
    cases h
  | succ n ih =>
    intro x1 I L res h
    rw [f_X12_house_2] at h
    refine E_iload_n (M := mX12_house) 3 rfl dX12_house_2 rfl 1 rfl ?_
    refine E_sipush (M := mX12_house) (v := 1294) 6 rfl dX12_house_3 (by decide) ?_
    refine E_icmp_ge (M := mX12_house) 27 9 (by decide) rfl dX12_house_6 (fun c1 => ?_) (fun c1 => ?_)
    · rw [if_pos c1] at h
      refine E_aload_n (M := mX12_house) 28 rfl dX12_house_27 rfl 0 rfl ?_
      refine E_iconst (M := mX12_house) (v := 1) 29 rfl dX12_house_28 (by decide) ?_
      replace h := Option.bind_eq_some_iff.mp h
      obtain ⟨w2, hw2, h⟩ := h
      refine E_cV1 (M := mX12_house) (As := [.int (bI true)]) 32 rfl dX12_house_29 shc_149 ck_X12_241 cv_X12_readAll rfl (by decide) (Nat.le_of_ble_eq_true rfl) (C_X12_readAll (g := g) hw2) rfl ?_
      refine E_istore_n (M := mX12_house) (lv' := [(1, .int w2.1), (0, .ref 149)]) 33 rfl dX12_house_32 rfl (Nat.le_of_ble_eq_true rfl) rfl ?_
      refine E_aload_n (M := mX12_house) 34 rfl dX12_house_33 rfl 1 rfl ?_
      refine E_iload_n (M := mX12_house) 35 rfl dX12_house_34 rfl 0 rfl ?_
      refine E_if_ge (M := mX12_house) 45 38 (by decide) rfl dX12_house_35 (fun c3 => ?_) (fun c3 => ?_)
      · rw [if_pos c3] at h
        refine E_iconst (M := mX12_house) (v := (-1)) 46 rfl dX12_house_45 (by decide) ?_
        refine E_sub (M := mX12_house) (lv' := [(0, .ref 149), (1, .int w2.1)]) [1, 0] rfl ?_
        exact S_X12_house_46 w2.1 ((-1)) w2.2.1 w2.2.2 _ h
      · rw [if_neg c3] at h
        refine E_aload_n (M := mX12_house) 39 rfl dX12_house_38 rfl 1 rfl ?_
        refine E_gI (M := mX12_house) 42 rfl dX12_house_39 shc_149 fl_X12_83 rfl ?_
        refine E_goto (M := mX12_house) 46 (by decide) dX12_house_42 ?_
        refine E_sub (M := mX12_house) (lv' := [(0, .ref 149), (1, .int w2.1)]) [1, 0] rfl ?_
        exact S_X12_house_46 w2.1 (w2.2.1 149 11) w2.2.1 w2.2.2 _ h
    · rw [if_neg c1] at h
      refine E_aload_n (M := mX12_house) 10 rfl dX12_house_9 rfl 0 rfl ?_
      refine E_gR (M := mX12_house) 152 13 rfl dX12_house_10 shc_149 fl_X12_20 rfl (by decide) (by decide) ?_
      refine E_iload_n (M := mX12_house) 14 rfl dX12_house_13 rfl 1 rfl ?_
      refine E_aload_n (M := mX12_house) 15 rfl dX12_house_14 rfl 0 rfl ?_
      refine E_gR (M := mX12_house) 150 18 rfl dX12_house_15 shc_149 fl_X12_13 rfl (by decide) (by decide) ?_
      refine E_iload_n (M := mX12_house) 19 rfl dX12_house_18 rfl 1 rfl ?_
      replace h := Option.bind_eq_some_iff.mp h
      obtain ⟨v4, hv4, h⟩ := h
      refine E_ldI (M := mX12_house) 20 rfl dX12_house_19 shc_150 hv4 ?_
      replace h := Option.bind_eq_some_iff.mp h
      obtain ⟨I5, hI5, h⟩ := h
      refine E_stI (M := mX12_house) 21 rfl dX12_house_20 shc_152 hI5 ?_
      refine E_iinc (M := mX12_house) (j := 1) (v := x1 + 1) (lv' := [(1, .int (x1 + 1)), (0, .ref 149)]) 24 rfl dX12_house_21 rfl rfl (Nat.le_of_ble_eq_true rfl) rfl ?_
      refine E_goto (M := mX12_house) 2 (by decide) dX12_house_24 ?_
      refine E_sub (M := mX12_house) (lv' := [(0, .ref 149), (1, .int (x1 + 1))]) [1, 0] rfl ?_
      exact ih (x1 + 1) I5 L _ h
def f_X12_house (I : MI) (L : ML) : Option (Int32 × MI × ML) := f_X12_house_2 FU 0 I L
set_option maxRecDepth 100000 in
theorem S_X12_house {g : Gx} (I : MI) (L : ML) (res : Int32 × MI × ML) (h : f_X12_house I L = some res) : E g 51 0 mX12_house 0 [(0, .ref 149)] [] (I, L) (.inl (some (.int res.1))) (res.2.1, res.2.2) := by
  unfold f_X12_house at h
  refine E_iconst (M := mX12_house) (v := 0) 1 rfl dX12_house_0 (by decide) ?_
  refine E_istore_n (M := mX12_house) (lv' := [(1, .int 0), (0, .ref 149)]) 2 rfl dX12_house_1 rfl (Nat.le_of_ble_eq_true rfl) rfl ?_
  refine E_sub (M := mX12_house) (lv' := [(0, .ref 149), (1, .int 0)]) [1, 0] rfl ?_
  exact S_X12_house_2 FU 0 I L _ h
theorem C_X12_house {g : Gx} {I : MI} {L : ML} {res : Int32 × MI × ML} (h : f_X12_house I L = some res) : Ent g 51 0 mX12_house [.ref 149] (I, L) (.inl (some (.int res.1))) (res.2.1, res.2.2) := Ent_of (by decide +kernel) (Nat.le_of_ble_eq_true rfl) (S_X12_house I L _ h)
def f_X12_will_52 : Nat → Int32 → Int32 → MI → ML → Option (Int32 × MI × ML)
  | 0, _, _, _, _ => none
  | n + 1, x1, x2, I, L => if 849 ≤ x2 then (Option.bind (stI I 150 2143 5 1) fun I2 => Option.bind (pfI I2 149 6 0) fun I3 => some (x1, I3, L)) else (Option.bind (ldI I 150 2143 (1294 + x2)) fun v4 => Option.bind (stI I 150 2143 (445 + x2) v4) fun I5 => f_X12_will_52 n x1 (x2 + 1) I5 L)
set_option maxRecDepth 100000 in
theorem S_X12_will_52 {g : Gx} : ∀ (n : Nat) (x1 : Int32) (x2 : Int32) (I : MI) (L : ML) (res : Int32 × MI × ML), f_X12_will_52 n x1 x2 I L = some res → E g 51 0 mX12_will 52 [(0, .ref 149), (1, .int x1), (2, .int x2)] [] (I, L) (.inl (some (.int res.1))) (res.2.1, res.2.2) := by
  intro n
  induction n with
  | zero =>
    intros
    rename_i h
    cases h
  | succ n ih =>
    intro x1 x2 I L res h
    rw [f_X12_will_52] at h
    refine E_iload_n (M := mX12_will) 53 rfl dX12_will_52 rfl 2 rfl ?_
    refine E_sipush (M := mX12_will) (v := 849) 56 rfl dX12_will_53 (by decide) ?_
    refine E_icmp_ge (M := mX12_will) 85 59 (by decide) rfl dX12_will_56 (fun c1 => ?_) (fun c1 => ?_)
    · rw [if_pos c1] at h
      refine E_aload_n (M := mX12_will) 86 rfl dX12_will_85 rfl 0 rfl ?_
      refine E_gR (M := mX12_will) 150 89 rfl dX12_will_86 shc_149 fl_X12_13 rfl (by decide) (by decide) ?_
      refine E_iconst (M := mX12_will) (v := 5) 90 rfl dX12_will_89 (by decide) ?_
      refine E_iconst (M := mX12_will) (v := 1) 91 rfl dX12_will_90 (by decide) ?_
      replace h := Option.bind_eq_some_iff.mp h
      obtain ⟨I2, hI2, h⟩ := h
      refine E_stI (M := mX12_will) 92 rfl dX12_will_91 shc_150 hI2 ?_
      refine E_aload_n (M := mX12_will) 93 rfl dX12_will_92 rfl 0 rfl ?_
      refine E_iconst (M := mX12_will) (v := 0) 94 rfl dX12_will_93 (by decide) ?_
      replace h := Option.bind_eq_some_iff.mp h
      obtain ⟨I3, hI3, h⟩ := h
      refine E_pfI (M := mX12_will) 97 rfl dX12_will_94 shc_149 fl_X12_53 rfl hI3 ?_
      refine E_iload_n (M := mX12_will) 98 rfl dX12_will_97 rfl 1 rfl ?_
      cases h
      exact E_iret (M := mX12_will) rfl dX12_will_98
    · rw [if_neg c1] at h
      refine E_aload_n (M := mX12_will) 60 rfl dX12_will_59 rfl 0 rfl ?_
      refine E_gR (M := mX12_will) 150 63 rfl dX12_will_60 shc_149 fl_X12_13 rfl (by decide) (by decide) ?_
      refine E_sipush (M := mX12_will) (v := 445) 66 rfl dX12_will_63 (by decide) ?_
      refine E_iload_n (M := mX12_will) 67 rfl dX12_will_66 rfl 2 rfl ?_
      refine E_iadd (M := mX12_will) 68 rfl dX12_will_67 ?_
      refine E_aload_n (M := mX12_will) 69 rfl dX12_will_68 rfl 0 rfl ?_
      refine E_gR (M := mX12_will) 150 72 rfl dX12_will_69 shc_149 fl_X12_13 rfl (by decide) (by decide) ?_
      refine E_sipush (M := mX12_will) (v := 1294) 75 rfl dX12_will_72 (by decide) ?_
      refine E_iload_n (M := mX12_will) 76 rfl dX12_will_75 rfl 2 rfl ?_
      refine E_iadd (M := mX12_will) 77 rfl dX12_will_76 ?_
      replace h := Option.bind_eq_some_iff.mp h
      obtain ⟨v4, hv4, h⟩ := h
      refine E_ldI (M := mX12_will) 78 rfl dX12_will_77 shc_150 hv4 ?_
      replace h := Option.bind_eq_some_iff.mp h
      obtain ⟨I5, hI5, h⟩ := h
      refine E_stI (M := mX12_will) 79 rfl dX12_will_78 shc_150 hI5 ?_
      refine E_iinc (M := mX12_will) (j := 2) (v := x2 + 1) (lv' := [(2, .int (x2 + 1)), (0, .ref 149), (1, .int x1)]) 82 rfl dX12_will_79 rfl rfl (Nat.le_of_ble_eq_true rfl) rfl ?_
      refine E_goto (M := mX12_will) 52 (by decide) dX12_will_82 ?_
      refine E_sub (M := mX12_will) (lv' := [(0, .ref 149), (1, .int x1), (2, .int (x2 + 1))]) [1, 2, 0] rfl ?_
      exact ih x1 (x2 + 1) I5 L _ h
def f_X12_will_32 (x1 : Int32) (y1 : Bool) (I : MI) (L : ML) : Option (Int32 × MI × ML) := Option.bind (f_X12_throwsIf y1 1 I L) fun w1 => if w1.1 = true then (some (0, w1.2.1, w1.2.2)) else (Option.bind (stI w1.2.1 150 2143 1294 x1) fun I3 => f_X12_will_52 FU x1 0 I3 w1.2.2)
set_option maxRecDepth 100000 in
theorem S_X12_will_32 {g : Gx} (x1 : Int32) (y1 : Bool) (I : MI) (L : ML) (res : Int32 × MI × ML) (h : f_X12_will_32 x1 y1 I L = some res) : E g 51 0 mX12_will 32 [(0, .ref 149), (1, .int x1)] [.int (bI y1), .ref 149] (I, L) (.inl (some (.int res.1))) (res.2.1, res.2.2) := by
  unfold f_X12_will_32 at h
  refine E_iconst (M := mX12_will) (v := 1) 33 rfl dX12_will_32 (by decide) ?_
  replace h := Option.bind_eq_some_iff.mp h
  obtain ⟨w1, hw1, h⟩ := h
  refine E_cV1 (M := mX12_will) (As := [.int (bI y1), .int 1]) 36 rfl dX12_will_33 shc_149 ck_X12_245 cv_X12_throwsIf rfl (by decide) (Nat.le_of_ble_eq_true rfl) (C_X12_throwsIf (g := g) hw1) rfl ?_
  refine E_if_eqB (M := mX12_will) 41 39 (by decide) rfl dX12_will_36 (fun c2 => ?_) (fun c2 => ?_)
  · rw [if_neg (by rw [c2]; decide)] at h
    refine E_aload_n (M := mX12_will) 42 rfl dX12_will_41 rfl 0 rfl ?_
    refine E_gR (M := mX12_will) 150 45 rfl dX12_will_42 shc_149 fl_X12_13 rfl (by decide) (by decide) ?_
    refine E_sipush (M := mX12_will) (v := 1294) 48 rfl dX12_will_45 (by decide) ?_
    refine E_iload_n (M := mX12_will) 49 rfl dX12_will_48 rfl 1 rfl ?_
    replace h := Option.bind_eq_some_iff.mp h
    obtain ⟨I3, hI3, h⟩ := h
    refine E_stI (M := mX12_will) 50 rfl dX12_will_49 shc_150 hI3 ?_
    refine E_iconst (M := mX12_will) (v := 0) 51 rfl dX12_will_50 (by decide) ?_
    refine E_istore_n (M := mX12_will) (lv' := [(2, .int 0), (0, .ref 149), (1, .int x1)]) 52 rfl dX12_will_51 rfl (Nat.le_of_ble_eq_true rfl) rfl ?_
    refine E_sub (M := mX12_will) (lv' := [(0, .ref 149), (1, .int x1), (2, .int 0)]) [1, 2, 0] rfl ?_
    exact S_X12_will_52 FU x1 0 I3 w1.2.2 _ h
  · rw [if_pos c2] at h
    refine E_iconst (M := mX12_will) (v := 0) 40 rfl dX12_will_39 (by decide) ?_
    cases h
    exact E_iret (M := mX12_will) rfl dX12_will_40
def f_X12_will_19 (x1 : Int32) (y1 : Int32) (I : MI) (L : ML) : Option (Int32 × MI × ML) := Option.bind (pfI I 149 13 y1) fun I1 => if 0 ≤ x1 then (f_X12_will_32 x1 false I1 L) else (f_X12_will_32 x1 true I1 L)
set_option maxRecDepth 100000 in
theorem S_X12_will_19 {g : Gx} (x1 : Int32) (y1 : Int32) (I : MI) (L : ML) (res : Int32 × MI × ML) (h : f_X12_will_19 x1 y1 I L = some res) : E g 51 0 mX12_will 19 [(0, .ref 149), (1, .int x1)] [.int y1, .ref 149] (I, L) (.inl (some (.int res.1))) (res.2.1, res.2.2) := by
  unfold f_X12_will_19 at h
  replace h := Option.bind_eq_some_iff.mp h
  obtain ⟨I1, hI1, h⟩ := h
  refine E_pfI (M := mX12_will) 22 rfl dX12_will_19 shc_149 fl_X12_30 rfl hI1 ?_
  refine E_aload_n (M := mX12_will) 23 rfl dX12_will_22 rfl 0 rfl ?_
  refine E_iload_n (M := mX12_will) 24 rfl dX12_will_23 rfl 1 rfl ?_
  refine E_if_ge (M := mX12_will) 31 27 (by decide) rfl dX12_will_24 (fun c2 => ?_) (fun c2 => ?_)
  · rw [if_pos c2] at h
    refine E_iconst (M := mX12_will) (v := 0) 32 rfl dX12_will_31 (by decide) ?_
    refine E_sub (M := mX12_will) (lv' := [(0, .ref 149), (1, .int x1)]) [0, 1] rfl ?_
    exact S_X12_will_32 x1 false I1 L _ h
  · rw [if_neg c2] at h
    refine E_iconst (M := mX12_will) (v := 1) 28 rfl dX12_will_27 (by decide) ?_
    refine E_goto (M := mX12_will) 32 (by decide) dX12_will_28 ?_
    refine E_sub (M := mX12_will) (lv' := [(0, .ref 149), (1, .int x1)]) [0, 1] rfl ?_
    exact S_X12_will_32 x1 true I1 L _ h
def f_X12_will (I : MI) (L : ML) : Option (Int32 × MI × ML) := Option.bind (f_X12_readAll false I L) fun w1 => if 0 ≤ w1.1 then (f_X12_will_19 w1.1 ((-1)) w1.2.1 w1.2.2) else (f_X12_will_19 w1.1 (w1.2.1 149 11) w1.2.1 w1.2.2)
set_option maxRecDepth 100000 in
theorem S_X12_will {g : Gx} (I : MI) (L : ML) (res : Int32 × MI × ML) (h : f_X12_will I L = some res) : E g 51 0 mX12_will 0 [(0, .ref 149)] [] (I, L) (.inl (some (.int res.1))) (res.2.1, res.2.2) := by
  unfold f_X12_will at h
  refine E_aload_n (M := mX12_will) 1 rfl dX12_will_0 rfl 0 rfl ?_
  refine E_iconst (M := mX12_will) (v := 0) 2 rfl dX12_will_1 (by decide) ?_
  replace h := Option.bind_eq_some_iff.mp h
  obtain ⟨w1, hw1, h⟩ := h
  refine E_cV1 (M := mX12_will) (As := [.int (bI false)]) 5 rfl dX12_will_2 shc_149 ck_X12_241 cv_X12_readAll rfl (by decide) (Nat.le_of_ble_eq_true rfl) (C_X12_readAll (g := g) hw1) rfl ?_
  refine E_istore_n (M := mX12_will) (lv' := [(1, .int w1.1), (0, .ref 149)]) 6 rfl dX12_will_5 rfl (Nat.le_of_ble_eq_true rfl) rfl ?_
  refine E_aload_n (M := mX12_will) 7 rfl dX12_will_6 rfl 1 rfl ?_
  refine E_iload_n (M := mX12_will) 8 rfl dX12_will_7 rfl 0 rfl ?_
  refine E_if_ge (M := mX12_will) 18 11 (by decide) rfl dX12_will_8 (fun c2 => ?_) (fun c2 => ?_)
  · rw [if_pos c2] at h
    refine E_iconst (M := mX12_will) (v := (-1)) 19 rfl dX12_will_18 (by decide) ?_
    refine E_sub (M := mX12_will) (lv' := [(0, .ref 149), (1, .int w1.1)]) [1, 0] rfl ?_
    exact S_X12_will_19 w1.1 ((-1)) w1.2.1 w1.2.2 _ h
  · rw [if_neg c2] at h
    refine E_aload_n (M := mX12_will) 12 rfl dX12_will_11 rfl 1 rfl ?_
    refine E_gI (M := mX12_will) 15 rfl dX12_will_12 shc_149 fl_X12_83 rfl ?_
    refine E_goto (M := mX12_will) 19 (by decide) dX12_will_15 ?_
    refine E_sub (M := mX12_will) (lv' := [(0, .ref 149), (1, .int w1.1)]) [1, 0] rfl ?_
    exact S_X12_will_19 w1.1 (w1.2.1 149 11) w1.2.1 w1.2.2 _ h
theorem C_X12_will {g : Gx} {I : MI} {L : ML} {res : Int32 × MI × ML} (h : f_X12_will I L = some res) : Ent g 51 0 mX12_will [.ref 149] (I, L) (.inl (some (.int res.1))) (res.2.1, res.2.2) := Ent_of (by decide +kernel) (Nat.le_of_ble_eq_true rfl) (S_X12_will I L _ h)
def f_X12_costOf (x1 : Int32) (x2 : Int32) (I : MI) (L : ML) : Option (Int32) := Option.bind (ldI I 156 100 ((10 * x1) + x2)) fun v1 => some v1
set_option maxRecDepth 100000 in
theorem S_X12_costOf {g : Gx} (x1 : Int32) (x2 : Int32) (I : MI) (L : ML) (res : Int32) (h : f_X12_costOf x1 x2 I L = some res) : E g 1 0 mX12_costOf 0 [(0, .ref 149), (1, .int x1), (2, .int x2)] [] (I, L) (.inl (some (.int res))) (I, L) := by
  unfold f_X12_costOf at h
  refine E_aload_n (M := mX12_costOf) 1 rfl dX12_costOf_0 rfl 0 rfl ?_
  refine E_gR (M := mX12_costOf) 156 4 rfl dX12_costOf_1 shc_149 fl_X12_36 rfl (by decide) (by decide) ?_
  refine E_bipush (M := mX12_costOf) (v := 10) 6 rfl dX12_costOf_4 (by decide) ?_
  refine E_iload_n (M := mX12_costOf) 7 rfl dX12_costOf_6 rfl 1 rfl ?_
  refine E_imul (M := mX12_costOf) 8 rfl dX12_costOf_7 ?_
  refine E_iload_n (M := mX12_costOf) 9 rfl dX12_costOf_8 rfl 2 rfl ?_
  refine E_iadd (M := mX12_costOf) 10 rfl dX12_costOf_9 ?_
  replace h := Option.bind_eq_some_iff.mp h
  obtain ⟨v1, hv1, h⟩ := h
  refine E_ldI (M := mX12_costOf) 11 rfl dX12_costOf_10 shc_156 hv1 ?_
  cases h
  exact E_iret (M := mX12_costOf) rfl dX12_costOf_11
theorem C_X12_costOf {g : Gx} {x1 : Int32} {x2 : Int32} {I : MI} {L : ML} {res : Int32} (h : f_X12_costOf x1 x2 I L = some res) : Ent g 1 0 mX12_costOf [.ref 149, .int x1, .int x2] (I, L) (.inl (some (.int res))) (I, L) := Ent_of (by decide +kernel) (Nat.le_of_ble_eq_true rfl) (S_X12_costOf x1 x2 I L _ h)
def f_X12_spreads_159 (k151 : Int32 → Int32 → MI → ML → Option (MI × ML)) : Nat → Int32 → Int32 → Int32 → MI → ML → Option (MI × ML)
  | 0, _, _, _, _, _ => none
  | n + 1, x1, x2, x3, I, L => if 10 ≤ x3 then (k151 x1 (x2 + 1) I L) else (Option.bind (f_X12_costOf x2 x3 I L) fun v2 => Option.bind (f_X12_costOf x2 x1 I L) fun v3 => Option.bind (f_X12_costOf x1 x3 I L) fun v4 => Option.bind (stI I 156 100 ((10 * x2) + x3) (if (v3 + v4) < v2 then (v3 + v4) else v2)) fun I5 => f_X12_spreads_159 k151 n x1 x2 (x3 + 1) I5 L)
set_option maxRecDepth 100000 in
theorem S_X12_spreads_159 {g : Gx} {k151 : Int32 → Int32 → MI → ML → Option (MI × ML)} (hk151 : ∀ (x1z : Int32) (x2z : Int32) (I : MI) (L : ML) (res : MI × ML), k151 x1z x2z I L = some res → E g 5 0 mX12_spreads 151 [(0, .ref 149), (1, .int x1z), (2, .int x2z)] [] (I, L) (.inl none) (res.1, res.2)) : ∀ (n : Nat) (x1 : Int32) (x2 : Int32) (x3 : Int32) (I : MI) (L : ML) (res : MI × ML), f_X12_spreads_159 k151 n x1 x2 x3 I L = some res → E g 5 0 mX12_spreads 159 [(0, .ref 149), (1, .int x1), (2, .int x2), (3, .int x3)] [] (I, L) (.inl none) (res.1, res.2) := by
  intro n
  induction n with
  | zero =>
    intros
    rename_i h
    cases h
  | succ n ih =>
    intro x1 x2 x3 I L res h
    rw [f_X12_spreads_159] at h
    refine E_iload_n (M := mX12_spreads) 160 rfl dX12_spreads_159 rfl 3 rfl ?_
    refine E_bipush (M := mX12_spreads) (v := 10) 162 rfl dX12_spreads_160 (by decide) ?_
    refine E_icmp_ge (M := mX12_spreads) 204 165 (by decide) rfl dX12_spreads_162 (fun c1 => ?_) (fun c1 => ?_)
    · rw [if_pos c1] at h
      refine E_iinc (M := mX12_spreads) (j := 2) (v := x2 + 1) (lv' := [(2, .int (x2 + 1)), (0, .ref 149), (1, .int x1), (3, .int x3)]) 207 rfl dX12_spreads_204 rfl rfl (Nat.le_of_ble_eq_true rfl) rfl ?_
      refine E_goto (M := mX12_spreads) 151 (by decide) dX12_spreads_207 ?_
      refine E_sub (M := mX12_spreads) (lv' := [(0, .ref 149), (1, .int x1), (2, .int (x2 + 1))]) [1, 2, 0] rfl ?_
      exact hk151 x1 (x2 + 1) I L _ h
    · rw [if_neg c1] at h
      refine E_aload_n (M := mX12_spreads) 166 rfl dX12_spreads_165 rfl 0 rfl ?_
      refine E_gR (M := mX12_spreads) 156 169 rfl dX12_spreads_166 shc_149 fl_X12_36 rfl (by decide) (by decide) ?_
      refine E_bipush (M := mX12_spreads) (v := 10) 171 rfl dX12_spreads_169 (by decide) ?_
      refine E_iload_n (M := mX12_spreads) 172 rfl dX12_spreads_171 rfl 2 rfl ?_
      refine E_imul (M := mX12_spreads) 173 rfl dX12_spreads_172 ?_
      refine E_iload_n (M := mX12_spreads) 174 rfl dX12_spreads_173 rfl 3 rfl ?_
      refine E_iadd (M := mX12_spreads) 175 rfl dX12_spreads_174 ?_
      refine E_aload_n (M := mX12_spreads) 176 rfl dX12_spreads_175 rfl 0 rfl ?_
      refine E_iload_n (M := mX12_spreads) 177 rfl dX12_spreads_176 rfl 2 rfl ?_
      refine E_iload_n (M := mX12_spreads) 178 rfl dX12_spreads_177 rfl 3 rfl ?_
      replace h := Option.bind_eq_some_iff.mp h
      obtain ⟨v2, hv2, h⟩ := h
      refine E_cV1 (M := mX12_spreads) (As := [.int x2, .int x3]) 181 rfl dX12_spreads_178 shc_149 ck_X12_252 cv_X12_costOf rfl (by decide) (Nat.le_of_ble_eq_true rfl) (C_X12_costOf (g := g) hv2) rfl ?_
      refine E_aload_n (M := mX12_spreads) 182 rfl dX12_spreads_181 rfl 0 rfl ?_
      refine E_iload_n (M := mX12_spreads) 183 rfl dX12_spreads_182 rfl 2 rfl ?_
      refine E_iload_n (M := mX12_spreads) 184 rfl dX12_spreads_183 rfl 1 rfl ?_
      replace h := Option.bind_eq_some_iff.mp h
      obtain ⟨v3, hv3, h⟩ := h
      refine E_cV1 (M := mX12_spreads) (As := [.int x2, .int x1]) 187 rfl dX12_spreads_184 shc_149 ck_X12_252 cv_X12_costOf rfl (by decide) (Nat.le_of_ble_eq_true rfl) (C_X12_costOf (g := g) hv3) rfl ?_
      refine E_aload_n (M := mX12_spreads) 188 rfl dX12_spreads_187 rfl 0 rfl ?_
      refine E_iload_n (M := mX12_spreads) 189 rfl dX12_spreads_188 rfl 1 rfl ?_
      refine E_iload_n (M := mX12_spreads) 190 rfl dX12_spreads_189 rfl 3 rfl ?_
      replace h := Option.bind_eq_some_iff.mp h
      obtain ⟨v4, hv4, h⟩ := h
      refine E_cV1 (M := mX12_spreads) (As := [.int x1, .int x3]) 193 rfl dX12_spreads_190 shc_149 ck_X12_252 cv_X12_costOf rfl (by decide) (Nat.le_of_ble_eq_true rfl) (C_X12_costOf (g := g) hv4) rfl ?_
      refine E_iadd (M := mX12_spreads) 194 rfl dX12_spreads_193 ?_
      refine E_min (M := mX12_spreads) 197 rfl dX12_spreads_194 jm_X12_255 (by decide) (Nat.le_of_ble_eq_true rfl) ?_
      replace h := Option.bind_eq_some_iff.mp h
      obtain ⟨I5, hI5, h⟩ := h
      refine E_stI (M := mX12_spreads) 198 rfl dX12_spreads_197 shc_156 hI5 ?_
      refine E_iinc (M := mX12_spreads) (j := 3) (v := x3 + 1) (lv' := [(3, .int (x3 + 1)), (0, .ref 149), (1, .int x1), (2, .int x2)]) 201 rfl dX12_spreads_198 rfl rfl (Nat.le_of_ble_eq_true rfl) rfl ?_
      refine E_goto (M := mX12_spreads) 159 (by decide) dX12_spreads_201 ?_
      refine E_sub (M := mX12_spreads) (lv' := [(0, .ref 149), (1, .int x1), (2, .int x2), (3, .int (x3 + 1))]) [1, 2, 3, 0] rfl ?_
      exact ih x1 x2 (x3 + 1) I5 L _ h
def f_X12_spreads_151 (k143 : Int32 → MI → ML → Option (MI × ML)) : Nat → Int32 → Int32 → MI → ML → Option (MI × ML)
  | 0, _, _, _, _ => none
  | n + 1, x1, x2, I, L => if 10 ≤ x2 then (k143 (x1 + 1) I L) else (f_X12_spreads_159 (f_X12_spreads_151 k143 n) FU x1 x2 0 I L)
set_option maxRecDepth 100000 in
theorem S_X12_spreads_151 {g : Gx} {k143 : Int32 → MI → ML → Option (MI × ML)} (hk143 : ∀ (x1z : Int32) (I : MI) (L : ML) (res : MI × ML), k143 x1z I L = some res → E g 5 0 mX12_spreads 143 [(0, .ref 149), (1, .int x1z)] [] (I, L) (.inl none) (res.1, res.2)) : ∀ (n : Nat) (x1 : Int32) (x2 : Int32) (I : MI) (L : ML) (res : MI × ML), f_X12_spreads_151 k143 n x1 x2 I L = some res → E g 5 0 mX12_spreads 151 [(0, .ref 149), (1, .int x1), (2, .int x2)] [] (I, L) (.inl none) (res.1, res.2) := by
  intro n
  induction n with
  | zero =>
    intros
    rename_i h
    cases h
  | succ n ih =>
    intro x1 x2 I L res h
    rw [f_X12_spreads_151] at h
    refine E_iload_n (M := mX12_spreads) 152 rfl dX12_spreads_151 rfl 2 rfl ?_
    refine E_bipush (M := mX12_spreads) (v := 10) 154 rfl dX12_spreads_152 (by decide) ?_
    refine E_icmp_ge (M := mX12_spreads) 210 157 (by decide) rfl dX12_spreads_154 (fun c1 => ?_) (fun c1 => ?_)
    · rw [if_pos c1] at h
      refine E_iinc (M := mX12_spreads) (j := 1) (v := x1 + 1) (lv' := [(1, .int (x1 + 1)), (0, .ref 149), (2, .int x2)]) 213 rfl dX12_spreads_210 rfl rfl (Nat.le_of_ble_eq_true rfl) rfl ?_
      refine E_goto (M := mX12_spreads) 143 (by decide) dX12_spreads_213 ?_
      refine E_sub (M := mX12_spreads) (lv' := [(0, .ref 149), (1, .int (x1 + 1))]) [1, 0] rfl ?_
      exact hk143 (x1 + 1) I L _ h
    · rw [if_neg c1] at h
      refine E_iconst (M := mX12_spreads) (v := 0) 158 rfl dX12_spreads_157 (by decide) ?_
      refine E_istore_n (M := mX12_spreads) (lv' := [(3, .int 0), (0, .ref 149), (1, .int x1), (2, .int x2)]) 159 rfl dX12_spreads_158 rfl (Nat.le_of_ble_eq_true rfl) rfl ?_
      refine E_sub (M := mX12_spreads) (lv' := [(0, .ref 149), (1, .int x1), (2, .int x2), (3, .int 0)]) [1, 2, 3, 0] rfl ?_
      exact S_X12_spreads_159 ih FU x1 x2 0 I L _ h
def f_X12_spreads_143 : Nat → Int32 → MI → ML → Option (MI × ML)
  | 0, _, _, _ => none
  | n + 1, x1, I, L => if 10 ≤ x1 then (some (I, L)) else (f_X12_spreads_151 (f_X12_spreads_143 n) FU x1 0 I L)
set_option maxRecDepth 100000 in
theorem S_X12_spreads_143 {g : Gx} : ∀ (n : Nat) (x1 : Int32) (I : MI) (L : ML) (res : MI × ML), f_X12_spreads_143 n x1 I L = some res → E g 5 0 mX12_spreads 143 [(0, .ref 149), (1, .int x1)] [] (I, L) (.inl none) (res.1, res.2) := by
  intro n
  induction n with
  | zero =>
    intros
    rename_i h
    cases h
  | succ n ih =>
    intro x1 I L res h
    rw [f_X12_spreads_143] at h
    refine E_iload_n (M := mX12_spreads) 144 rfl dX12_spreads_143 rfl 1 rfl ?_
    refine E_bipush (M := mX12_spreads) (v := 10) 146 rfl dX12_spreads_144 (by decide) ?_
    refine E_icmp_ge (M := mX12_spreads) 216 149 (by decide) rfl dX12_spreads_146 (fun c1 => ?_) (fun c1 => ?_)
    · rw [if_pos c1] at h
      cases h
      exact E_vret (M := mX12_spreads) rfl dX12_spreads_216
    · rw [if_neg c1] at h
      refine E_iconst (M := mX12_spreads) (v := 0) 150 rfl dX12_spreads_149 (by decide) ?_
      refine E_istore_n (M := mX12_spreads) (lv' := [(2, .int 0), (0, .ref 149), (1, .int x1)]) 151 rfl dX12_spreads_150 rfl (Nat.le_of_ble_eq_true rfl) rfl ?_
      refine E_sub (M := mX12_spreads) (lv' := [(0, .ref 149), (1, .int x1), (2, .int 0)]) [1, 2, 0] rfl ?_
      exact S_X12_spreads_151 ih FU x1 0 I L _ h
def f_X12_spreads_39 : Nat → Int32 → MI → ML → Option (MI × ML)
  | 0, _, _, _ => none
  | n + 1, x1, I, L => Option.bind (ldI I 150 2143 1) fun v1 => if v1 ≤ x1 then (f_X12_spreads_143 FU 0 I L) else (Option.bind (f_X12_ofDoor x1 0 I L) fun v3 => Option.bind (f_X12_ofDoor x1 1 I L) fun v4 => Option.bind (f_X12_costOf v3 v4 I L) fun v5 => Option.bind (f_X12_ofDoor x1 2 I L) fun v6 => Option.bind (ldI I 150 2143 (15 + v4)) fun v7 => Option.bind (stI I 156 100 ((10 * v3) + v4) (if (v6 + v7) < v5 then (v6 + v7) else v5)) fun I8 => Option.bind (f_X12_costOf v4 v3 I8 L) fun v9 => Option.bind (f_X12_ofDoor x1 2 I8 L) fun v10 => Option.bind (ldI I8 150 2143 (15 + v3)) fun v11 => Option.bind (stI I8 156 100 ((10 * v4) + v3) (if (v10 + v11) < v9 then (v10 + v11) else v9)) fun I12 => f_X12_spreads_39 n (x1 + 1) I12 L)
set_option maxRecDepth 100000 in
theorem S_X12_spreads_39 {g : Gx} : ∀ (n : Nat) (x1 : Int32) (I : MI) (L : ML) (res : MI × ML), f_X12_spreads_39 n x1 I L = some res → E g 5 0 mX12_spreads 39 [(0, .ref 149), (1, .int x1)] [] (I, L) (.inl none) (res.1, res.2) := by
  intro n
  induction n with
  | zero =>
    intros
    rename_i h
    cases h
  | succ n ih =>
    intro x1 I L res h
    rw [f_X12_spreads_39] at h
    refine E_iload_n (M := mX12_spreads) 40 rfl dX12_spreads_39 rfl 1 rfl ?_
    refine E_aload_n (M := mX12_spreads) 41 rfl dX12_spreads_40 rfl 0 rfl ?_
    refine E_gR (M := mX12_spreads) 150 44 rfl dX12_spreads_41 shc_149 fl_X12_13 rfl (by decide) (by decide) ?_
    refine E_iconst (M := mX12_spreads) (v := 1) 45 rfl dX12_spreads_44 (by decide) ?_
    replace h := Option.bind_eq_some_iff.mp h
    obtain ⟨v1, hv1, h⟩ := h
    refine E_ldI (M := mX12_spreads) 46 rfl dX12_spreads_45 shc_150 hv1 ?_
    refine E_icmp_ge (M := mX12_spreads) 141 49 (by decide) rfl dX12_spreads_46 (fun c2 => ?_) (fun c2 => ?_)
    · rw [if_pos c2] at h
      refine E_iconst (M := mX12_spreads) (v := 0) 142 rfl dX12_spreads_141 (by decide) ?_
      refine E_istore_n (M := mX12_spreads) (lv' := [(1, .int 0), (0, .ref 149)]) 143 rfl dX12_spreads_142 rfl (Nat.le_of_ble_eq_true rfl) rfl ?_
      refine E_sub (M := mX12_spreads) (lv' := [(0, .ref 149), (1, .int 0)]) [1, 0] rfl ?_
      exact S_X12_spreads_143 FU 0 I L _ h
    · rw [if_neg c2] at h
      refine E_aload_n (M := mX12_spreads) 50 rfl dX12_spreads_49 rfl 0 rfl ?_
      refine E_iload_n (M := mX12_spreads) 51 rfl dX12_spreads_50 rfl 1 rfl ?_
      refine E_iconst (M := mX12_spreads) (v := 0) 52 rfl dX12_spreads_51 (by decide) ?_
      replace h := Option.bind_eq_some_iff.mp h
      obtain ⟨v3, hv3, h⟩ := h
      refine E_cV1 (M := mX12_spreads) (As := [.int x1, .int 0]) 55 rfl dX12_spreads_52 shc_149 ck_X12_249 cv_X12_ofDoor rfl (by decide) (Nat.le_of_ble_eq_true rfl) (C_X12_ofDoor (g := g) hv3) rfl ?_
      refine E_istore_n (M := mX12_spreads) (lv' := [(2, .int v3), (0, .ref 149), (1, .int x1)]) 56 rfl dX12_spreads_55 rfl (Nat.le_of_ble_eq_true rfl) rfl ?_
      refine E_aload_n (M := mX12_spreads) 57 rfl dX12_spreads_56 rfl 1 rfl ?_
      refine E_iload_n (M := mX12_spreads) 58 rfl dX12_spreads_57 rfl 2 rfl ?_
      refine E_iconst (M := mX12_spreads) (v := 1) 59 rfl dX12_spreads_58 (by decide) ?_
      replace h := Option.bind_eq_some_iff.mp h
      obtain ⟨v4, hv4, h⟩ := h
      refine E_cV1 (M := mX12_spreads) (As := [.int x1, .int 1]) 62 rfl dX12_spreads_59 shc_149 ck_X12_249 cv_X12_ofDoor rfl (by decide) (Nat.le_of_ble_eq_true rfl) (C_X12_ofDoor (g := g) hv4) rfl ?_
      refine E_istore_n (M := mX12_spreads) (lv' := [(3, .int v4), (2, .int v3), (0, .ref 149), (1, .int x1)]) 63 rfl dX12_spreads_62 rfl (Nat.le_of_ble_eq_true rfl) rfl ?_
      refine E_aload_n (M := mX12_spreads) 64 rfl dX12_spreads_63 rfl 2 rfl ?_
      refine E_gR (M := mX12_spreads) 156 67 rfl dX12_spreads_64 shc_149 fl_X12_36 rfl (by decide) (by decide) ?_
      refine E_bipush (M := mX12_spreads) (v := 10) 69 rfl dX12_spreads_67 (by decide) ?_
      refine E_iload_n (M := mX12_spreads) 70 rfl dX12_spreads_69 rfl 1 rfl ?_
      refine E_imul (M := mX12_spreads) 71 rfl dX12_spreads_70 ?_
      refine E_iload_n (M := mX12_spreads) 72 rfl dX12_spreads_71 rfl 0 rfl ?_
      refine E_iadd (M := mX12_spreads) 73 rfl dX12_spreads_72 ?_
      refine E_aload_n (M := mX12_spreads) 74 rfl dX12_spreads_73 rfl 2 rfl ?_
      refine E_iload_n (M := mX12_spreads) 75 rfl dX12_spreads_74 rfl 1 rfl ?_
      refine E_iload_n (M := mX12_spreads) 76 rfl dX12_spreads_75 rfl 0 rfl ?_
      replace h := Option.bind_eq_some_iff.mp h
      obtain ⟨v5, hv5, h⟩ := h
      refine E_cV1 (M := mX12_spreads) (As := [.int v3, .int v4]) 79 rfl dX12_spreads_76 shc_149 ck_X12_252 cv_X12_costOf rfl (by decide) (Nat.le_of_ble_eq_true rfl) (C_X12_costOf (g := g) hv5) rfl ?_
      refine E_aload_n (M := mX12_spreads) 80 rfl dX12_spreads_79 rfl 2 rfl ?_
      refine E_iload_n (M := mX12_spreads) 81 rfl dX12_spreads_80 rfl 3 rfl ?_
      refine E_iconst (M := mX12_spreads) (v := 2) 82 rfl dX12_spreads_81 (by decide) ?_
      replace h := Option.bind_eq_some_iff.mp h
      obtain ⟨v6, hv6, h⟩ := h
      refine E_cV1 (M := mX12_spreads) (As := [.int x1, .int 2]) 85 rfl dX12_spreads_82 shc_149 ck_X12_249 cv_X12_ofDoor rfl (by decide) (Nat.le_of_ble_eq_true rfl) (C_X12_ofDoor (g := g) hv6) rfl ?_
      refine E_aload_n (M := mX12_spreads) 86 rfl dX12_spreads_85 rfl 2 rfl ?_
      refine E_gR (M := mX12_spreads) 150 89 rfl dX12_spreads_86 shc_149 fl_X12_13 rfl (by decide) (by decide) ?_
      refine E_bipush (M := mX12_spreads) (v := 15) 91 rfl dX12_spreads_89 (by decide) ?_
      refine E_iload_n (M := mX12_spreads) 92 rfl dX12_spreads_91 rfl 0 rfl ?_
      refine E_iadd (M := mX12_spreads) 93 rfl dX12_spreads_92 ?_
      replace h := Option.bind_eq_some_iff.mp h
      obtain ⟨v7, hv7, h⟩ := h
      refine E_ldI (M := mX12_spreads) 94 rfl dX12_spreads_93 shc_150 hv7 ?_
      refine E_iadd (M := mX12_spreads) 95 rfl dX12_spreads_94 ?_
      refine E_min (M := mX12_spreads) 98 rfl dX12_spreads_95 jm_X12_255 (by decide) (Nat.le_of_ble_eq_true rfl) ?_
      replace h := Option.bind_eq_some_iff.mp h
      obtain ⟨I8, hI8, h⟩ := h
      refine E_stI (M := mX12_spreads) 99 rfl dX12_spreads_98 shc_156 hI8 ?_
      refine E_aload_n (M := mX12_spreads) 100 rfl dX12_spreads_99 rfl 2 rfl ?_
      refine E_gR (M := mX12_spreads) 156 103 rfl dX12_spreads_100 shc_149 fl_X12_36 rfl (by decide) (by decide) ?_
      refine E_bipush (M := mX12_spreads) (v := 10) 105 rfl dX12_spreads_103 (by decide) ?_
      refine E_iload_n (M := mX12_spreads) 106 rfl dX12_spreads_105 rfl 0 rfl ?_
      refine E_imul (M := mX12_spreads) 107 rfl dX12_spreads_106 ?_
      refine E_iload_n (M := mX12_spreads) 108 rfl dX12_spreads_107 rfl 1 rfl ?_
      refine E_iadd (M := mX12_spreads) 109 rfl dX12_spreads_108 ?_
      refine E_aload_n (M := mX12_spreads) 110 rfl dX12_spreads_109 rfl 2 rfl ?_
      refine E_iload_n (M := mX12_spreads) 111 rfl dX12_spreads_110 rfl 0 rfl ?_
      refine E_iload_n (M := mX12_spreads) 112 rfl dX12_spreads_111 rfl 1 rfl ?_
      replace h := Option.bind_eq_some_iff.mp h
      obtain ⟨v9, hv9, h⟩ := h
      refine E_cV1 (M := mX12_spreads) (As := [.int v4, .int v3]) 115 rfl dX12_spreads_112 shc_149 ck_X12_252 cv_X12_costOf rfl (by decide) (Nat.le_of_ble_eq_true rfl) (C_X12_costOf (g := g) hv9) rfl ?_
      refine E_aload_n (M := mX12_spreads) 116 rfl dX12_spreads_115 rfl 2 rfl ?_
      refine E_iload_n (M := mX12_spreads) 117 rfl dX12_spreads_116 rfl 3 rfl ?_
      refine E_iconst (M := mX12_spreads) (v := 2) 118 rfl dX12_spreads_117 (by decide) ?_
      replace h := Option.bind_eq_some_iff.mp h
      obtain ⟨v10, hv10, h⟩ := h
      refine E_cV1 (M := mX12_spreads) (As := [.int x1, .int 2]) 121 rfl dX12_spreads_118 shc_149 ck_X12_249 cv_X12_ofDoor rfl (by decide) (Nat.le_of_ble_eq_true rfl) (C_X12_ofDoor (g := g) hv10) rfl ?_
      refine E_aload_n (M := mX12_spreads) 122 rfl dX12_spreads_121 rfl 2 rfl ?_
      refine E_gR (M := mX12_spreads) 150 125 rfl dX12_spreads_122 shc_149 fl_X12_13 rfl (by decide) (by decide) ?_
      refine E_bipush (M := mX12_spreads) (v := 15) 127 rfl dX12_spreads_125 (by decide) ?_
      refine E_iload_n (M := mX12_spreads) 128 rfl dX12_spreads_127 rfl 1 rfl ?_
      refine E_iadd (M := mX12_spreads) 129 rfl dX12_spreads_128 ?_
      replace h := Option.bind_eq_some_iff.mp h
      obtain ⟨v11, hv11, h⟩ := h
      refine E_ldI (M := mX12_spreads) 130 rfl dX12_spreads_129 shc_150 hv11 ?_
      refine E_iadd (M := mX12_spreads) 131 rfl dX12_spreads_130 ?_
      refine E_min (M := mX12_spreads) 134 rfl dX12_spreads_131 jm_X12_255 (by decide) (Nat.le_of_ble_eq_true rfl) ?_
      replace h := Option.bind_eq_some_iff.mp h
      obtain ⟨I12, hI12, h⟩ := h
      refine E_stI (M := mX12_spreads) 135 rfl dX12_spreads_134 shc_156 hI12 ?_
      refine E_iinc (M := mX12_spreads) (j := 3) (v := x1 + 1) (lv' := [(1, .int (x1 + 1)), (3, .int v4), (2, .int v3), (0, .ref 149)]) 138 rfl dX12_spreads_135 rfl rfl (Nat.le_of_ble_eq_true rfl) rfl ?_
      refine E_goto (M := mX12_spreads) 39 (by decide) dX12_spreads_138 ?_
      refine E_sub (M := mX12_spreads) (lv' := [(0, .ref 149), (1, .int (x1 + 1))]) [3, 0] rfl ?_
      exact ih (x1 + 1) I12 L _ h
def f_X12_spreads_30 (k2 : Int32 → MI → ML → Option (MI × ML)) (x1 : Int32) (y1 : Int32) (y2 : Int32) (I : MI) (L : ML) : Option (MI × ML) := Option.bind (stI I 156 100 y1 y2) fun I1 => k2 (x1 + 1) I1 L
set_option maxRecDepth 100000 in
theorem S_X12_spreads_30 {g : Gx} {k2 : Int32 → MI → ML → Option (MI × ML)} (hk2 : ∀ (x1z : Int32) (I : MI) (L : ML) (res : MI × ML), k2 x1z I L = some res → E g 5 0 mX12_spreads 2 [(0, .ref 149), (1, .int x1z)] [] (I, L) (.inl none) (res.1, res.2)) (x1 : Int32) (y1 : Int32) (y2 : Int32) (I : MI) (L : ML) (res : MI × ML) (h : f_X12_spreads_30 k2 x1 y1 y2 I L = some res) : E g 5 0 mX12_spreads 30 [(0, .ref 149), (1, .int x1)] [.int y2, .int y1, .ref 156] (I, L) (.inl none) (res.1, res.2) := by
  unfold f_X12_spreads_30 at h
  replace h := Option.bind_eq_some_iff.mp h
  obtain ⟨I1, hI1, h⟩ := h
  refine E_stI (M := mX12_spreads) 31 rfl dX12_spreads_30 shc_156 hI1 ?_
  refine E_iinc (M := mX12_spreads) (j := 1) (v := x1 + 1) (lv' := [(1, .int (x1 + 1)), (0, .ref 149)]) 34 rfl dX12_spreads_31 rfl rfl (Nat.le_of_ble_eq_true rfl) rfl ?_
  refine E_goto (M := mX12_spreads) 2 (by decide) dX12_spreads_34 ?_
  refine E_sub (M := mX12_spreads) (lv' := [(0, .ref 149), (1, .int (x1 + 1))]) [1, 0] rfl ?_
  exact hk2 (x1 + 1) I1 L _ h
def f_X12_spreads_2 : Nat → Int32 → MI → ML → Option (MI × ML)
  | 0, _, _, _ => none
  | n + 1, x1, I, L => if 100 ≤ x1 then (f_X12_spreads_39 FU 0 I L) else (if (x1 / 10) = (x1 - x1 / 10 * 10) then (f_X12_spreads_30 (f_X12_spreads_2 n) x1 x1 0 I L) else (f_X12_spreads_30 (f_X12_spreads_2 n) x1 x1 1000000 I L))
set_option maxRecDepth 100000 in
theorem S_X12_spreads_2 {g : Gx} : ∀ (n : Nat) (x1 : Int32) (I : MI) (L : ML) (res : MI × ML), f_X12_spreads_2 n x1 I L = some res → E g 5 0 mX12_spreads 2 [(0, .ref 149), (1, .int x1)] [] (I, L) (.inl none) (res.1, res.2) := by
  intro n
  induction n with
  | zero =>
    intros
    rename_i h
    cases h
  | succ n ih =>
    intro x1 I L res h
    rw [f_X12_spreads_2] at h
    refine E_iload_n (M := mX12_spreads) 3 rfl dX12_spreads_2 rfl 1 rfl ?_
    refine E_bipush (M := mX12_spreads) (v := 100) 5 rfl dX12_spreads_3 (by decide) ?_
    refine E_icmp_ge (M := mX12_spreads) 37 8 (by decide) rfl dX12_spreads_5 (fun c1 => ?_) (fun c1 => ?_)
    · rw [if_pos c1] at h
      refine E_iconst (M := mX12_spreads) (v := 0) 38 rfl dX12_spreads_37 (by decide) ?_
      refine E_istore_n (M := mX12_spreads) (lv' := [(1, .int 0), (0, .ref 149)]) 39 rfl dX12_spreads_38 rfl (Nat.le_of_ble_eq_true rfl) rfl ?_
      refine E_sub (M := mX12_spreads) (lv' := [(0, .ref 149), (1, .int 0)]) [1, 0] rfl ?_
      exact S_X12_spreads_39 FU 0 I L _ h
    · rw [if_neg c1] at h
      refine E_aload_n (M := mX12_spreads) 9 rfl dX12_spreads_8 rfl 0 rfl ?_
      refine E_gR (M := mX12_spreads) 156 12 rfl dX12_spreads_9 shc_149 fl_X12_36 rfl (by decide) (by decide) ?_
      refine E_iload_n (M := mX12_spreads) 13 rfl dX12_spreads_12 rfl 1 rfl ?_
      refine E_iload_n (M := mX12_spreads) 14 rfl dX12_spreads_13 rfl 1 rfl ?_
      refine E_bipush (M := mX12_spreads) (v := 10) 16 rfl dX12_spreads_14 (by decide) ?_
      refine E_idiv (M := mX12_spreads) 17 rfl dX12_spreads_16 (by decide) ?_
      refine E_iload_n (M := mX12_spreads) 18 rfl dX12_spreads_17 rfl 1 rfl ?_
      refine E_bipush (M := mX12_spreads) (v := 10) 20 rfl dX12_spreads_18 (by decide) ?_
      refine E_irem (M := mX12_spreads) 21 rfl dX12_spreads_20 (by decide) ?_
      refine E_icmp_ne (M := mX12_spreads) 28 24 (by decide) rfl dX12_spreads_21 (fun c4 => ?_) (fun c4 => ?_)
      · rw [if_neg c4] at h
        refine E_ldc (M := mX12_spreads) 30 rfl dX12_spreads_28 cst_X12_248 ?_
        refine E_sub (M := mX12_spreads) (lv' := [(0, .ref 149), (1, .int x1)]) [0, 1] rfl ?_
        exact S_X12_spreads_30 ih x1 x1 1000000 I L _ h
      · rw [if_pos c4] at h
        refine E_iconst (M := mX12_spreads) (v := 0) 25 rfl dX12_spreads_24 (by decide) ?_
        refine E_goto (M := mX12_spreads) 30 (by decide) dX12_spreads_25 ?_
        refine E_sub (M := mX12_spreads) (lv' := [(0, .ref 149), (1, .int x1)]) [0, 1] rfl ?_
        exact S_X12_spreads_30 ih x1 x1 0 I L _ h
def f_X12_spreads (I : MI) (L : ML) : Option (MI × ML) := f_X12_spreads_2 FU 0 I L
set_option maxRecDepth 100000 in
theorem S_X12_spreads {g : Gx} (I : MI) (L : ML) (res : MI × ML) (h : f_X12_spreads I L = some res) : E g 5 0 mX12_spreads 0 [(0, .ref 149)] [] (I, L) (.inl none) (res.1, res.2) := by
  unfold f_X12_spreads at h
  refine E_iconst (M := mX12_spreads) (v := 0) 1 rfl dX12_spreads_0 (by decide) ?_
  refine E_istore_n (M := mX12_spreads) (lv' := [(1, .int 0), (0, .ref 149)]) 2 rfl dX12_spreads_1 rfl (Nat.le_of_ble_eq_true rfl) rfl ?_
  refine E_sub (M := mX12_spreads) (lv' := [(0, .ref 149), (1, .int 0)]) [1, 0] rfl ?_
  exact S_X12_spreads_2 FU 0 I L _ h
theorem C_X12_spreads {g : Gx} {I : MI} {L : ML} {res : MI × ML} (h : f_X12_spreads I L = some res) : Ent g 5 0 mX12_spreads [.ref 149] (I, L) (.inl none) (res.1, res.2) := Ent_of (by decide +kernel) (Nat.le_of_ble_eq_true rfl) (S_X12_spreads I L _ h)
