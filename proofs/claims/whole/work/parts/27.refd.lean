def f_X12_part_94 (y0 : Int64) (I : MI) (L : ML) : Option (Int32 × MI × ML) := some (y0.toInt32, I, L)
set_option maxRecDepth 100000 in
theorem S_X12_part_94 {g : Gx} (y0 : Int64) (I : MI) (L : ML) (res : Int32 × MI × ML) (h : f_X12_part_94 y0 I L = some res) : E g 12 0 mX12_part 94 [] [.long y0] (I, L) (.inl (some (.int res.1))) (res.2.1, res.2.2) := by
  unfold f_X12_part_94 at h
  refine E_l2i (M := mX12_part) 95 rfl dX12_part_94 ?_
  cases h
  exact E_iret (M := mX12_part) rfl dX12_part_95
def f_X12_part_63 (I : MI) (L : ML) : Option (Int32 × MI × ML) := some (0, I, L)
set_option maxRecDepth 100000 in
theorem S_X12_part_63 {g : Gx} (I : MI) (L : ML) (res : Int32 × MI × ML) (h : f_X12_part_63 I L = some res) : E g 12 0 mX12_part 63 [] [] (I, L) (.inl (some (.int res.1))) (res.2.1, res.2.2) := by
  unfold f_X12_part_63 at h
  refine E_iconst (M := mX12_part) (v := 0) 64 rfl dX12_part_63 (by decide) ?_
  cases h
  exact E_iret (M := mX12_part) rfl dX12_part_64
def f_X12_part_56 (x1 : Int32) (x2 : Int32) (x3 : Int32) (y1 : Bool) (I : MI) (L : ML) : Option (Int32 × MI × ML) := Option.bind (f_X12_throwsIf y1 2 I L) fun w1 => if w1.1 = true then (f_X12_part_63 w1.2.1 w1.2.2) else (Option.bind (f_X12_spreads w1.2.1 w1.2.2) fun w3 => Option.bind (f_X12_parts x2 x3.toInt64 w3.1 w3.2) fun w4 => if x1 = ((-1)) then (f_X12_part_94 w4.1 w4.2.1 w4.2.2) else (Option.bind (ldL w4.2.2 159 6 x1) fun v6 => f_X12_part_94 v6 w4.2.1 w4.2.2))
set_option maxRecDepth 100000 in
theorem S_X12_part_56 {g : Gx} (x1 : Int32) (x2 : Int32) (x3 : Int32) (y1 : Bool) (I : MI) (L : ML) (res : Int32 × MI × ML) (h : f_X12_part_56 x1 x2 x3 y1 I L = some res) : E g 12 0 mX12_part 56 [(0, .ref 149), (1, .int x1), (2, .int x2), (3, .int x3)] [.int (bI y1), .ref 149] (I, L) (.inl (some (.int res.1))) (res.2.1, res.2.2) := by
  unfold f_X12_part_56 at h
  refine E_iconst (M := mX12_part) (v := 2) 57 rfl dX12_part_56 (by decide) ?_
  replace h := Option.bind_eq_some_iff.mp h
  obtain ⟨w1, hw1, h⟩ := h
  refine E_cV1 (M := mX12_part) (As := [.int (bI y1), .int 2]) 60 rfl dX12_part_57 shc_149 ck_X12_245 cv_X12_throwsIf rfl (by decide) (Nat.le_of_ble_eq_true rfl) (C_X12_throwsIf (g := g) hw1) rfl ?_
  refine E_if_eqB (M := mX12_part) 65 63 (by decide) rfl dX12_part_60 (fun c2 => ?_) (fun c2 => ?_)
  · rw [if_neg (by rw [c2]; decide)] at h
    refine E_aload_n (M := mX12_part) 66 rfl dX12_part_65 rfl 0 rfl ?_
    replace h := Option.bind_eq_some_iff.mp h
    obtain ⟨w3, hw3, h⟩ := h
    refine E_cV0 (M := mX12_part) (As := []) 69 rfl dX12_part_66 shc_149 ck_X12_298 cv_X12_spreads rfl (by decide) (Nat.le_of_ble_eq_true rfl) (C_X12_spreads (g := g) hw3) rfl ?_
    refine E_aload_n (M := mX12_part) 70 rfl dX12_part_69 rfl 0 rfl ?_
    refine E_iload_n (M := mX12_part) 71 rfl dX12_part_70 rfl 2 rfl ?_
    refine E_iload_n (M := mX12_part) 72 rfl dX12_part_71 rfl 3 rfl ?_
    refine E_i2l (M := mX12_part) 73 rfl dX12_part_72 ?_
    replace h := Option.bind_eq_some_iff.mp h
    obtain ⟨w4, hw4, h⟩ := h
    refine E_cV1 (M := mX12_part) (As := [.int x2, .long x3.toInt64]) 76 rfl dX12_part_73 shc_149 ck_X12_308 cv_X12_parts rfl (by decide) (Nat.le_of_ble_eq_true rfl) (C_X12_parts (g := g) hw4) rfl ?_
    refine E_lstore (M := mX12_part) (lv' := [(4, .long w4.1), (0, .ref 149), (1, .int x1), (2, .int x2), (3, .int x3)]) 78 rfl dX12_part_76 (Nat.le_of_ble_eq_true rfl) rfl ?_
    refine E_iload_n (M := mX12_part) 79 rfl dX12_part_78 rfl 2 rfl ?_
    refine E_iconst (M := mX12_part) (v := (-1)) 80 rfl dX12_part_79 (by decide) ?_
    refine E_icmp_ne (M := mX12_part) 88 83 (by decide) rfl dX12_part_80 (fun c5 => ?_) (fun c5 => ?_)
    · rw [if_neg c5] at h
      refine E_aload_n (M := mX12_part) 89 rfl dX12_part_88 rfl 1 rfl ?_
      refine E_gR (M := mX12_part) 159 92 rfl dX12_part_89 shc_149 fl_X12_45 rfl (by decide) (by decide) ?_
      refine E_iload_n (M := mX12_part) 93 rfl dX12_part_92 rfl 2 rfl ?_
      replace h := Option.bind_eq_some_iff.mp h
      obtain ⟨v6, hv6, h⟩ := h
      refine E_ldL (M := mX12_part) 94 rfl dX12_part_93 shc_159 hv6 ?_
      refine E_sub (M := mX12_part) (lv' := []) [] rfl ?_
      exact S_X12_part_94 v6 w4.2.1 w4.2.2 _ h
    · rw [if_pos c5] at h
      refine E_lload (M := mX12_part) 85 rfl dX12_part_83 0 rfl ?_
      refine E_goto (M := mX12_part) 94 (by decide) dX12_part_85 ?_
      refine E_sub (M := mX12_part) (lv' := []) [] rfl ?_
      exact S_X12_part_94 w4.1 w4.2.1 w4.2.2 _ h
  · rw [if_pos c2] at h
    refine E_sub (M := mX12_part) (lv' := []) [] rfl ?_
    exact S_X12_part_63 w1.2.1 w1.2.2 _ h
def f_X12_part_32 (x1 : Int32) (x2 : Int32) (x3 : Int32) (y1 : Bool) (I : MI) (L : ML) : Option (Int32 × MI × ML) := Option.bind (f_X12_throwsIf y1 1 I L) fun w1 => if w1.1 = true then (f_X12_part_63 w1.2.1 w1.2.2) else (Option.bind (f_X12_in x3 0 99999 w1.2.1 w1.2.2) fun v3 => if v3 = true then (f_X12_part_56 x1 x2 x3 false w1.2.1 w1.2.2) else (f_X12_part_56 x1 x2 x3 true w1.2.1 w1.2.2))
set_option maxRecDepth 100000 in
theorem S_X12_part_32 {g : Gx} (x1 : Int32) (x2 : Int32) (x3 : Int32) (y1 : Bool) (I : MI) (L : ML) (res : Int32 × MI × ML) (h : f_X12_part_32 x1 x2 x3 y1 I L = some res) : E g 12 0 mX12_part 32 [(0, .ref 149), (1, .int x1), (2, .int x2), (3, .int x3)] [.int (bI y1), .ref 149] (I, L) (.inl (some (.int res.1))) (res.2.1, res.2.2) := by
  unfold f_X12_part_32 at h
  refine E_iconst (M := mX12_part) (v := 1) 33 rfl dX12_part_32 (by decide) ?_
  replace h := Option.bind_eq_some_iff.mp h
  obtain ⟨w1, hw1, h⟩ := h
  refine E_cV1 (M := mX12_part) (As := [.int (bI y1), .int 1]) 36 rfl dX12_part_33 shc_149 ck_X12_245 cv_X12_throwsIf rfl (by decide) (Nat.le_of_ble_eq_true rfl) (C_X12_throwsIf (g := g) hw1) rfl ?_
  refine E_if_neB (M := mX12_part) 63 39 (by decide) rfl dX12_part_36 (fun c2 => ?_) (fun c2 => ?_)
  · rw [if_pos c2] at h
    refine E_sub (M := mX12_part) (lv' := []) [] rfl ?_
    exact S_X12_part_63 w1.2.1 w1.2.2 _ h
  · rw [if_neg (by rw [c2]; decide)] at h
    refine E_aload_n (M := mX12_part) 40 rfl dX12_part_39 rfl 0 rfl ?_
    refine E_iload_n (M := mX12_part) 41 rfl dX12_part_40 rfl 3 rfl ?_
    refine E_iconst (M := mX12_part) (v := 0) 42 rfl dX12_part_41 (by decide) ?_
    refine E_ldcw (M := mX12_part) 45 rfl dX12_part_42 cst_X12_307 ?_
    replace h := Option.bind_eq_some_iff.mp h
    obtain ⟨v3, hv3, h⟩ := h
    refine E_cS1 (M := mX12_part) (As := [.int x3, .int 0, .int 99999]) 48 rfl dX12_part_45 ck_X12_60 ss_X12_in rfl (by decide) (Nat.le_of_ble_eq_true rfl) (C_X12_in (g := g) hv3) rfl ?_
    refine E_if_neB (M := mX12_part) 55 51 (by decide) rfl dX12_part_48 (fun c4 => ?_) (fun c4 => ?_)
    · rw [if_pos c4] at h
      refine E_iconst (M := mX12_part) (v := 0) 56 rfl dX12_part_55 (by decide) ?_
      refine E_sub (M := mX12_part) (lv' := [(0, .ref 149), (1, .int x1), (2, .int x2), (3, .int x3)]) [0, 1, 2, 3] rfl ?_
      exact S_X12_part_56 x1 x2 x3 false w1.2.1 w1.2.2 _ h
    · rw [if_neg (by rw [c4]; decide)] at h
      refine E_iconst (M := mX12_part) (v := 1) 52 rfl dX12_part_51 (by decide) ?_
      refine E_goto (M := mX12_part) 56 (by decide) dX12_part_52 ?_
      refine E_sub (M := mX12_part) (lv' := [(0, .ref 149), (1, .int x1), (2, .int x2), (3, .int x3)]) [0, 1, 2, 3] rfl ?_
      exact S_X12_part_56 x1 x2 x3 true w1.2.1 w1.2.2 _ h
def f_X12_part_27 (x1 : Int32) (x2 : Int32) (x3 : Int32) (I : MI) (L : ML) : Option (Int32 × MI × ML) := f_X12_part_32 x1 x2 x3 true I L
set_option maxRecDepth 100000 in
theorem S_X12_part_27 {g : Gx} (x1 : Int32) (x2 : Int32) (x3 : Int32) (I : MI) (L : ML) (res : Int32 × MI × ML) (h : f_X12_part_27 x1 x2 x3 I L = some res) : E g 12 0 mX12_part 27 [(0, .ref 149), (1, .int x1), (2, .int x2), (3, .int x3)] [.ref 149] (I, L) (.inl (some (.int res.1))) (res.2.1, res.2.2) := by
  unfold f_X12_part_27 at h
  refine E_iconst (M := mX12_part) (v := 1) 28 rfl dX12_part_27 (by decide) ?_
  refine E_goto (M := mX12_part) 32 (by decide) dX12_part_28 ?_
  refine E_sub (M := mX12_part) (lv' := [(0, .ref 149), (1, .int x1), (2, .int x2), (3, .int x3)]) [0, 1, 2, 3] rfl ?_
  exact S_X12_part_32 x1 x2 x3 true I L _ h
def f_X12_part_19 (x1 : Int32) (x2 : Int32) (x3 : Int32) (I : MI) (L : ML) : Option (Int32 × MI × ML) := Option.bind (f_X12_noNoise x2 I L) fun v1 => if v1 = true then (f_X12_part_27 x1 x2 x3 I L) else (f_X12_part_32 x1 x2 x3 false I L)
set_option maxRecDepth 100000 in
theorem S_X12_part_19 {g : Gx} (x1 : Int32) (x2 : Int32) (x3 : Int32) (I : MI) (L : ML) (res : Int32 × MI × ML) (h : f_X12_part_19 x1 x2 x3 I L = some res) : E g 12 0 mX12_part 19 [(0, .ref 149), (1, .int x1), (2, .int x2), (3, .int x3)] [.ref 149] (I, L) (.inl (some (.int res.1))) (res.2.1, res.2.2) := by
  unfold f_X12_part_19 at h
  refine E_aload_n (M := mX12_part) 20 rfl dX12_part_19 rfl 0 rfl ?_
  refine E_iload_n (M := mX12_part) 21 rfl dX12_part_20 rfl 2 rfl ?_
  replace h := Option.bind_eq_some_iff.mp h
  obtain ⟨v1, hv1, h⟩ := h
  refine E_cV1 (M := mX12_part) (As := [.int x2]) 24 rfl dX12_part_21 shc_149 ck_X12_304 cv_X12_noNoise rfl (by decide) (Nat.le_of_ble_eq_true rfl) (C_X12_noNoise (g := g) hv1) rfl ?_
  refine E_if_eqB (M := mX12_part) 31 27 (by decide) rfl dX12_part_24 (fun c2 => ?_) (fun c2 => ?_)
  · rw [if_neg (by rw [c2]; decide)] at h
    refine E_iconst (M := mX12_part) (v := 0) 32 rfl dX12_part_31 (by decide) ?_
    refine E_sub (M := mX12_part) (lv' := [(0, .ref 149), (1, .int x1), (2, .int x2), (3, .int x3)]) [0, 1, 2, 3] rfl ?_
    exact S_X12_part_32 x1 x2 x3 false I L _ h
  · rw [if_pos c2] at h
    refine E_sub (M := mX12_part) (lv' := [(0, .ref 149), (1, .int x1), (2, .int x2), (3, .int x3)]) [0, 1, 2, 3] rfl ?_
    exact S_X12_part_27 x1 x2 x3 I L _ h
def f_X12_part (x1 : Int32) (x2 : Int32) (x3 : Int32) (I : MI) (L : ML) : Option (Int32 × MI × ML) := Option.bind (pfI I 149 0 0) fun I1 => if x1 = ((-1)) then (f_X12_part_19 x1 x2 x3 I1 L) else (Option.bind (f_X12_noHeir x1 I1 L) fun v3 => if v3 = true then (f_X12_part_27 x1 x2 x3 I1 L) else (f_X12_part_19 x1 x2 x3 I1 L))
set_option maxRecDepth 100000 in
theorem S_X12_part {g : Gx} (x1 : Int32) (x2 : Int32) (x3 : Int32) (I : MI) (L : ML) (res : Int32 × MI × ML) (h : f_X12_part x1 x2 x3 I L = some res) : E g 12 0 mX12_part 0 [(0, .ref 149), (1, .int x1), (2, .int x2), (3, .int x3)] [] (I, L) (.inl (some (.int res.1))) (res.2.1, res.2.2) := by
  unfold f_X12_part at h
  refine E_aload_n (M := mX12_part) 1 rfl dX12_part_0 rfl 0 rfl ?_
  refine E_iconst (M := mX12_part) (v := 0) 2 rfl dX12_part_1 (by decide) ?_
  replace h := Option.bind_eq_some_iff.mp h
  obtain ⟨I1, hI1, h⟩ := h
  refine E_pfI (M := mX12_part) 5 rfl dX12_part_2 shc_149 fl_X12_3 rfl hI1 ?_
  refine E_aload_n (M := mX12_part) 6 rfl dX12_part_5 rfl 0 rfl ?_
  refine E_iload_n (M := mX12_part) 7 rfl dX12_part_6 rfl 1 rfl ?_
  refine E_iconst (M := mX12_part) (v := (-1)) 8 rfl dX12_part_7 (by decide) ?_
  refine E_icmp_eq (M := mX12_part) 19 11 (by decide) rfl dX12_part_8 (fun c2 => ?_) (fun c2 => ?_)
  · rw [if_pos c2] at h
    refine E_sub (M := mX12_part) (lv' := [(0, .ref 149), (1, .int x1), (2, .int x2), (3, .int x3)]) [0, 1, 2, 3] rfl ?_
    exact S_X12_part_19 x1 x2 x3 I1 L _ h
  · rw [if_neg c2] at h
    refine E_aload_n (M := mX12_part) 12 rfl dX12_part_11 rfl 0 rfl ?_
    refine E_iload_n (M := mX12_part) 13 rfl dX12_part_12 rfl 1 rfl ?_
    replace h := Option.bind_eq_some_iff.mp h
    obtain ⟨v3, hv3, h⟩ := h
    refine E_cV1 (M := mX12_part) (As := [.int x1]) 16 rfl dX12_part_13 shc_149 ck_X12_301 cv_X12_noHeir rfl (by decide) (Nat.le_of_ble_eq_true rfl) (C_X12_noHeir (g := g) hv3) rfl ?_
    refine E_if_neB (M := mX12_part) 27 19 (by decide) rfl dX12_part_16 (fun c4 => ?_) (fun c4 => ?_)
    · rw [if_pos c4] at h
      refine E_sub (M := mX12_part) (lv' := [(0, .ref 149), (1, .int x1), (2, .int x2), (3, .int x3)]) [0, 1, 2, 3] rfl ?_
      exact S_X12_part_27 x1 x2 x3 I1 L _ h
    · rw [if_neg (by rw [c4]; decide)] at h
      refine E_sub (M := mX12_part) (lv' := [(0, .ref 149), (1, .int x1), (2, .int x2), (3, .int x3)]) [0, 1, 2, 3] rfl ?_
      exact S_X12_part_19 x1 x2 x3 I1 L _ h
theorem C_X12_part {g : Gx} {x1 : Int32} {x2 : Int32} {x3 : Int32} {I : MI} {L : ML} {res : Int32 × MI × ML} (h : f_X12_part x1 x2 x3 I L = some res) : Ent g 12 0 mX12_part [.ref 149, .int x1, .int x2, .int x3] (I, L) (.inl (some (.int res.1))) (res.2.1, res.2.2) := Ent_of (by decide +kernel) (Nat.le_of_ble_eq_true rfl) (S_X12_part x1 x2 x3 I L _ h)
def f_X12_draw (x1 : Int32) (I : MI) (L : ML) : Option (Int32 × MI × ML) := Option.bind (ldI I 150 2143 13) fun v1 => Option.bind (stI I 150 2143 13 ((1103515245 * v1) + 12345)) fun I2 => Option.bind (ldI I2 150 2143 13) fun v3 => Option.bind (rmI ((v3 >>> (16 &&& 31)) &&& 32767) x1) fun v4 => some (v4, I2, L)
set_option maxRecDepth 100000 in
theorem S_X12_draw {g : Gx} (x1 : Int32) (I : MI) (L : ML) (res : Int32 × MI × ML) (h : f_X12_draw x1 I L = some res) : E g 1 0 mX12_draw 0 [(0, .ref 149), (1, .int x1)] [] (I, L) (.inl (some (.int res.1))) (res.2.1, res.2.2) := by
  unfold f_X12_draw at h
  refine E_aload_n (M := mX12_draw) 1 rfl dX12_draw_0 rfl 0 rfl ?_
  refine E_gR (M := mX12_draw) 150 4 rfl dX12_draw_1 shc_149 fl_X12_13 rfl (by decide) (by decide) ?_
  refine E_bipush (M := mX12_draw) (v := 13) 6 rfl dX12_draw_4 (by decide) ?_
  refine E_ldcw (M := mX12_draw) 9 rfl dX12_draw_6 cst_X12_312 ?_
  refine E_aload_n (M := mX12_draw) 10 rfl dX12_draw_9 rfl 0 rfl ?_
  refine E_gR (M := mX12_draw) 150 13 rfl dX12_draw_10 shc_149 fl_X12_13 rfl (by decide) (by decide) ?_
  refine E_bipush (M := mX12_draw) (v := 13) 15 rfl dX12_draw_13 (by decide) ?_
  replace h := Option.bind_eq_some_iff.mp h
  obtain ⟨v1, hv1, h⟩ := h
  refine E_ldI (M := mX12_draw) 16 rfl dX12_draw_15 shc_150 hv1 ?_
  refine E_imul (M := mX12_draw) 17 rfl dX12_draw_16 ?_
  refine E_sipush (M := mX12_draw) (v := 12345) 20 rfl dX12_draw_17 (by decide) ?_
  refine E_iadd (M := mX12_draw) 21 rfl dX12_draw_20 ?_
  replace h := Option.bind_eq_some_iff.mp h
  obtain ⟨I2, hI2, h⟩ := h
  refine E_stI (M := mX12_draw) 22 rfl dX12_draw_21 shc_150 hI2 ?_
  refine E_aload_n (M := mX12_draw) 23 rfl dX12_draw_22 rfl 0 rfl ?_
  refine E_gR (M := mX12_draw) 150 26 rfl dX12_draw_23 shc_149 fl_X12_13 rfl (by decide) (by decide) ?_
  refine E_bipush (M := mX12_draw) (v := 13) 28 rfl dX12_draw_26 (by decide) ?_
  replace h := Option.bind_eq_some_iff.mp h
  obtain ⟨v3, hv3, h⟩ := h
  refine E_ldI (M := mX12_draw) 29 rfl dX12_draw_28 shc_150 hv3 ?_
  refine E_bipush (M := mX12_draw) (v := 16) 31 rfl dX12_draw_29 (by decide) ?_
  refine E_ishr (M := mX12_draw) 32 rfl dX12_draw_31 ?_
  refine E_sipush (M := mX12_draw) (v := 32767) 35 rfl dX12_draw_32 (by decide) ?_
  refine E_iand (M := mX12_draw) 36 rfl dX12_draw_35 ?_
  refine E_iload_n (M := mX12_draw) 37 rfl dX12_draw_36 rfl 1 rfl ?_
  replace h := Option.bind_eq_some_iff.mp h
  obtain ⟨v4, hv4, h⟩ := h
  refine E_rmI (M := mX12_draw) 38 rfl dX12_draw_37 hv4 ?_
  cases h
  exact E_iret (M := mX12_draw) rfl dX12_draw_38
theorem C_X12_draw {g : Gx} {x1 : Int32} {I : MI} {L : ML} {res : Int32 × MI × ML} (h : f_X12_draw x1 I L = some res) : Ent g 1 0 mX12_draw [.ref 149, .int x1] (I, L) (.inl (some (.int res.1))) (res.2.1, res.2.2) := Ent_of (by decide +kernel) (Nat.le_of_ble_eq_true rfl) (S_X12_draw x1 I L _ h)
def f_X12_sounds_100 (y0 : Bool) (I : MI) (L : ML) : Option (Bool × MI × ML) := some (y0, I, L)
set_option maxRecDepth 100000 in
theorem S_X12_sounds_100 {g : Gx} (y0 : Bool) (I : MI) (L : ML) (res : Bool × MI × ML) (h : f_X12_sounds_100 y0 I L = some res) : E g 2 0 mX12_sounds 100 [] [.int (bI y0)] (I, L) (.inl (some (.int (bI res.1)))) (res.2.1, res.2.2) := by
  unfold f_X12_sounds_100 at h
  cases h
  exact E_zret (M := mX12_sounds) (x := y0) rfl dX12_sounds_100
def f_X12_sounds (x1 : Int32) (I : MI) (L : ML) : Option (Bool × MI × ML) := Option.bind (f_X12_of x1 0 I L) fun v1 => if v1 = 0 then (Option.bind (f_X12_of x1 6 I L) fun v12 => Option.bind (ldI I 150 2143 7) fun v13 => Option.bind (f_X12_has v12 v13 I L) fun v14 => f_X12_sounds_100 v14 I L) else (if v1 = 1 then (Option.bind (ldI I 150 2143 9) fun v10 => if v10 = 1 then (f_X12_sounds_100 true I L) else (f_X12_sounds_100 false I L)) else (if v1 = 2 then (Option.bind (f_X12_draw 100 I L) fun w7 => Option.bind (f_X12_of x1 6 w7.2.1 w7.2.2) fun v8 => if v8 ≤ w7.1 then (f_X12_sounds_100 false w7.2.1 w7.2.2) else (f_X12_sounds_100 true w7.2.1 w7.2.2)) else (Option.bind (f_X12_of x1 9 I L) fun v5 => if v5 = 1 then (f_X12_sounds_100 true I L) else (f_X12_sounds_100 false I L))))
set_option maxRecDepth 100000 in
theorem S_X12_sounds {g : Gx} (x1 : Int32) (I : MI) (L : ML) (res : Bool × MI × ML) (h : f_X12_sounds x1 I L = some res) : E g 2 0 mX12_sounds 0 [(0, .ref 149), (1, .int x1)] [] (I, L) (.inl (some (.int (bI res.1)))) (res.2.1, res.2.2) := by
  unfold f_X12_sounds at h
  refine E_aload_n (M := mX12_sounds) 1 rfl dX12_sounds_0 rfl 0 rfl ?_
  refine E_iload_n (M := mX12_sounds) 2 rfl dX12_sounds_1 rfl 1 rfl ?_
  refine E_iconst (M := mX12_sounds) (v := 0) 3 rfl dX12_sounds_2 (by decide) ?_
  replace h := Option.bind_eq_some_iff.mp h
  obtain ⟨v1, hv1, h⟩ := h
  refine E_cV1 (M := mX12_sounds) (As := [.int x1, .int 0]) 6 rfl dX12_sounds_3 shc_149 ck_X12_260 cv_X12_of rfl (by decide) (Nat.le_of_ble_eq_true rfl) (C_X12_of (g := g) hv1) rfl ?_
  refine E_istore_n (M := mX12_sounds) (lv' := [(2, .int v1), (0, .ref 149), (1, .int x1)]) 7 rfl dX12_sounds_6 rfl (Nat.le_of_ble_eq_true rfl) rfl ?_
  refine E_iload_n (M := mX12_sounds) 8 rfl dX12_sounds_7 rfl 0 rfl ?_
  refine E_if_ne (M := mX12_sounds) 31 11 (by decide) rfl dX12_sounds_8 (fun c2 => ?_) (fun c2 => ?_)
  · rw [if_neg c2] at h
    refine E_iload_n (M := mX12_sounds) 32 rfl dX12_sounds_31 rfl 0 rfl ?_
    refine E_iconst (M := mX12_sounds) (v := 1) 33 rfl dX12_sounds_32 (by decide) ?_
    refine E_icmp_ne (M := mX12_sounds) 55 36 (by decide) rfl dX12_sounds_33 (fun c3 => ?_) (fun c3 => ?_)
    · rw [if_neg c3] at h
      refine E_iload_n (M := mX12_sounds) 56 rfl dX12_sounds_55 rfl 0 rfl ?_
      refine E_iconst (M := mX12_sounds) (v := 2) 57 rfl dX12_sounds_56 (by decide) ?_
      refine E_icmp_ne (M := mX12_sounds) 84 60 (by decide) rfl dX12_sounds_57 (fun c4 => ?_) (fun c4 => ?_)
      · rw [if_neg c4] at h
        refine E_aload_n (M := mX12_sounds) 85 rfl dX12_sounds_84 rfl 1 rfl ?_
        refine E_iload_n (M := mX12_sounds) 86 rfl dX12_sounds_85 rfl 2 rfl ?_
        refine E_bipush (M := mX12_sounds) (v := 9) 88 rfl dX12_sounds_86 (by decide) ?_
        replace h := Option.bind_eq_some_iff.mp h
        obtain ⟨v5, hv5, h⟩ := h
        refine E_cV1 (M := mX12_sounds) (As := [.int x1, .int 9]) 91 rfl dX12_sounds_88 shc_149 ck_X12_260 cv_X12_of rfl (by decide) (Nat.le_of_ble_eq_true rfl) (C_X12_of (g := g) hv5) rfl ?_
        refine E_iconst (M := mX12_sounds) (v := 1) 92 rfl dX12_sounds_91 (by decide) ?_
        refine E_icmp_ne (M := mX12_sounds) 99 95 (by decide) rfl dX12_sounds_92 (fun c6 => ?_) (fun c6 => ?_)
        · rw [if_neg c6] at h
          refine E_iconst (M := mX12_sounds) (v := 0) 100 rfl dX12_sounds_99 (by decide) ?_
          refine E_sub (M := mX12_sounds) (lv' := []) [] rfl ?_
          exact S_X12_sounds_100 false I L _ h
        · rw [if_pos c6] at h
          refine E_iconst (M := mX12_sounds) (v := 1) 96 rfl dX12_sounds_95 (by decide) ?_
          refine E_goto (M := mX12_sounds) 100 (by decide) dX12_sounds_96 ?_
          refine E_sub (M := mX12_sounds) (lv' := []) [] rfl ?_
          exact S_X12_sounds_100 true I L _ h
      · rw [if_pos c4] at h
        refine E_aload_n (M := mX12_sounds) 61 rfl dX12_sounds_60 rfl 1 rfl ?_
        refine E_bipush (M := mX12_sounds) (v := 100) 63 rfl dX12_sounds_61 (by decide) ?_
        replace h := Option.bind_eq_some_iff.mp h
        obtain ⟨w7, hw7, h⟩ := h
        refine E_cV1 (M := mX12_sounds) (As := [.int 100]) 66 rfl dX12_sounds_63 shc_149 ck_X12_313 cv_X12_draw rfl (by decide) (Nat.le_of_ble_eq_true rfl) (C_X12_draw (g := g) hw7) rfl ?_
        refine E_aload_n (M := mX12_sounds) 67 rfl dX12_sounds_66 rfl 1 rfl ?_
        refine E_iload_n (M := mX12_sounds) 68 rfl dX12_sounds_67 rfl 2 rfl ?_
        refine E_bipush (M := mX12_sounds) (v := 6) 70 rfl dX12_sounds_68 (by decide) ?_
        replace h := Option.bind_eq_some_iff.mp h
        obtain ⟨v8, hv8, h⟩ := h
        refine E_cV1 (M := mX12_sounds) (As := [.int x1, .int 6]) 73 rfl dX12_sounds_70 shc_149 ck_X12_260 cv_X12_of rfl (by decide) (Nat.le_of_ble_eq_true rfl) (C_X12_of (g := g) hv8) rfl ?_
        refine E_icmp_ge (M := mX12_sounds) 80 76 (by decide) rfl dX12_sounds_73 (fun c9 => ?_) (fun c9 => ?_)
        · rw [if_pos c9] at h
          refine E_iconst (M := mX12_sounds) (v := 0) 81 rfl dX12_sounds_80 (by decide) ?_
          refine E_goto (M := mX12_sounds) 100 (by decide) dX12_sounds_81 ?_
          refine E_sub (M := mX12_sounds) (lv' := []) [] rfl ?_
          exact S_X12_sounds_100 false w7.2.1 w7.2.2 _ h
        · rw [if_neg c9] at h
          refine E_iconst (M := mX12_sounds) (v := 1) 77 rfl dX12_sounds_76 (by decide) ?_
          refine E_goto (M := mX12_sounds) 100 (by decide) dX12_sounds_77 ?_
          refine E_sub (M := mX12_sounds) (lv' := []) [] rfl ?_
          exact S_X12_sounds_100 true w7.2.1 w7.2.2 _ h
    · rw [if_pos c3] at h
      refine E_aload_n (M := mX12_sounds) 37 rfl dX12_sounds_36 rfl 1 rfl ?_
      refine E_gR (M := mX12_sounds) 150 40 rfl dX12_sounds_37 shc_149 fl_X12_13 rfl (by decide) (by decide) ?_
      refine E_bipush (M := mX12_sounds) (v := 9) 42 rfl dX12_sounds_40 (by decide) ?_
      replace h := Option.bind_eq_some_iff.mp h
      obtain ⟨v10, hv10, h⟩ := h
      refine E_ldI (M := mX12_sounds) 43 rfl dX12_sounds_42 shc_150 hv10 ?_
      refine E_iconst (M := mX12_sounds) (v := 1) 44 rfl dX12_sounds_43 (by decide) ?_
      refine E_icmp_ne (M := mX12_sounds) 51 47 (by decide) rfl dX12_sounds_44 (fun c11 => ?_) (fun c11 => ?_)
      · rw [if_neg c11] at h
        refine E_iconst (M := mX12_sounds) (v := 0) 52 rfl dX12_sounds_51 (by decide) ?_
        refine E_goto (M := mX12_sounds) 100 (by decide) dX12_sounds_52 ?_
        refine E_sub (M := mX12_sounds) (lv' := []) [] rfl ?_
        exact S_X12_sounds_100 false I L _ h
      · rw [if_pos c11] at h
        refine E_iconst (M := mX12_sounds) (v := 1) 48 rfl dX12_sounds_47 (by decide) ?_
        refine E_goto (M := mX12_sounds) 100 (by decide) dX12_sounds_48 ?_
        refine E_sub (M := mX12_sounds) (lv' := []) [] rfl ?_
        exact S_X12_sounds_100 true I L _ h
  · rw [if_pos c2] at h
    refine E_aload_n (M := mX12_sounds) 12 rfl dX12_sounds_11 rfl 1 rfl ?_
    refine E_iload_n (M := mX12_sounds) 13 rfl dX12_sounds_12 rfl 2 rfl ?_
    refine E_bipush (M := mX12_sounds) (v := 6) 15 rfl dX12_sounds_13 (by decide) ?_
    replace h := Option.bind_eq_some_iff.mp h
    obtain ⟨v12, hv12, h⟩ := h
    refine E_cV1 (M := mX12_sounds) (As := [.int x1, .int 6]) 18 rfl dX12_sounds_15 shc_149 ck_X12_260 cv_X12_of rfl (by decide) (Nat.le_of_ble_eq_true rfl) (C_X12_of (g := g) hv12) rfl ?_
    refine E_aload_n (M := mX12_sounds) 19 rfl dX12_sounds_18 rfl 1 rfl ?_
    refine E_gR (M := mX12_sounds) 150 22 rfl dX12_sounds_19 shc_149 fl_X12_13 rfl (by decide) (by decide) ?_
    refine E_bipush (M := mX12_sounds) (v := 7) 24 rfl dX12_sounds_22 (by decide) ?_
    replace h := Option.bind_eq_some_iff.mp h
    obtain ⟨v13, hv13, h⟩ := h
    refine E_ldI (M := mX12_sounds) 25 rfl dX12_sounds_24 shc_150 hv13 ?_
    replace h := Option.bind_eq_some_iff.mp h
    obtain ⟨v14, hv14, h⟩ := h
    refine E_cS1 (M := mX12_sounds) (As := [.int v12, .int v13]) 28 rfl dX12_sounds_25 ck_X12_289 ss_X12_has rfl (by decide) (Nat.le_of_ble_eq_true rfl) (C_X12_has (g := g) hv14) rfl ?_
    refine E_goto (M := mX12_sounds) 100 (by decide) dX12_sounds_28 ?_
    refine E_sub (M := mX12_sounds) (lv' := []) [] rfl ?_
    exact S_X12_sounds_100 v14 I L _ h
theorem C_X12_sounds {g : Gx} {x1 : Int32} {I : MI} {L : ML} {res : Bool × MI × ML} (h : f_X12_sounds x1 I L = some res) : Ent g 2 0 mX12_sounds [.ref 149, .int x1] (I, L) (.inl (some (.int (bI res.1)))) (res.2.1, res.2.2) := Ent_of (by decide +kernel) (Nat.le_of_ble_eq_true rfl) (S_X12_sounds x1 I L _ h)
def f_X12_pays_27 : Nat → Int32 → Int32 → MI → ML → Option (MI × ML)
  | 0, _, _, _, _ => none
  | n + 1, x2, x3, I, L => Option.bind (f_X12_heirs I L) fun v1 => if v1 ≤ x3 then (Option.bind (ldI I 150 2143 11) fun v3 => Option.bind (stI I 150 2143 11 (v3 + x2)) fun I4 => some (I4, L)) else (Option.bind (f_X12_ofHeir x3 2 I L) fun v5 => Option.bind (ldL L 159 6 x3) fun v6 => Option.bind (f_X12_setsHeir x3 2 (v5 + v6.toInt32) I L) fun w7 => f_X12_pays_27 n x2 (x3 + 1) w7.1 w7.2)
set_option maxRecDepth 100000 in
theorem S_X12_pays_27 {g : Gx} : ∀ (n : Nat) (x2 : Int32) (x3 : Int32) (I : MI) (L : ML) (res : MI × ML), f_X12_pays_27 n x2 x3 I L = some res → E g 12 0 mX12_pays 27 [(0, .ref 149), (2, .int x2), (3, .int x3)] [] (I, L) (.inl none) (res.1, res.2) := by
  intro n
  induction n with
  | zero =>
    intros
    rename_i h
    cases h
  | succ n ih =>
    intro x2 x3 I L res h
    rw [f_X12_pays_27] at h
    refine E_iload_n (M := mX12_pays) 28 rfl dX12_pays_27 rfl 2 rfl ?_
    refine E_aload_n (M := mX12_pays) 29 rfl dX12_pays_28 rfl 0 rfl ?_
    replace h := Option.bind_eq_some_iff.mp h
    obtain ⟨v1, hv1, h⟩ := h
    refine E_cV1 (M := mX12_pays) (As := []) 32 rfl dX12_pays_29 shc_149 ck_X12_64 cv_X12_heirs rfl (by decide) (Nat.le_of_ble_eq_true rfl) (C_X12_heirs (g := g) hv1) rfl ?_
    refine E_icmp_ge (M := mX12_pays) 61 35 (by decide) rfl dX12_pays_32 (fun c2 => ?_) (fun c2 => ?_)
    · rw [if_pos c2] at h
      refine E_aload_n (M := mX12_pays) 62 rfl dX12_pays_61 rfl 0 rfl ?_
      refine E_gR (M := mX12_pays) 150 65 rfl dX12_pays_62 shc_149 fl_X12_13 rfl (by decide) (by decide) ?_
      refine E_bipush (M := mX12_pays) (v := 11) 67 rfl dX12_pays_65 (by decide) ?_
      refine E_dup2 (M := mX12_pays) 68 rfl dX12_pays_67 rfl rfl ?_
      replace h := Option.bind_eq_some_iff.mp h
      obtain ⟨v3, hv3, h⟩ := h
      refine E_ldI (M := mX12_pays) 69 rfl dX12_pays_68 shc_150 hv3 ?_
      refine E_iload_n (M := mX12_pays) 70 rfl dX12_pays_69 rfl 1 rfl ?_
      refine E_iadd (M := mX12_pays) 71 rfl dX12_pays_70 ?_
      replace h := Option.bind_eq_some_iff.mp h
      obtain ⟨I4, hI4, h⟩ := h
      refine E_stI (M := mX12_pays) 72 rfl dX12_pays_71 shc_150 hI4 ?_
      cases h
      exact E_vret (M := mX12_pays) rfl dX12_pays_72
    · rw [if_neg c2] at h
      refine E_aload_n (M := mX12_pays) 36 rfl dX12_pays_35 rfl 0 rfl ?_
      refine E_iload_n (M := mX12_pays) 37 rfl dX12_pays_36 rfl 2 rfl ?_
      refine E_iconst (M := mX12_pays) (v := 2) 38 rfl dX12_pays_37 (by decide) ?_
      refine E_aload_n (M := mX12_pays) 39 rfl dX12_pays_38 rfl 0 rfl ?_
      refine E_iload_n (M := mX12_pays) 40 rfl dX12_pays_39 rfl 2 rfl ?_
      refine E_iconst (M := mX12_pays) (v := 2) 41 rfl dX12_pays_40 (by decide) ?_
      replace h := Option.bind_eq_some_iff.mp h
      obtain ⟨v5, hv5, h⟩ := h
      refine E_cV1 (M := mX12_pays) (As := [.int x3, .int 2]) 44 rfl dX12_pays_41 shc_149 ck_X12_266 cv_X12_ofHeir rfl (by decide) (Nat.le_of_ble_eq_true rfl) (C_X12_ofHeir (g := g) hv5) rfl ?_
      refine E_aload_n (M := mX12_pays) 45 rfl dX12_pays_44 rfl 0 rfl ?_
      refine E_gR (M := mX12_pays) 159 48 rfl dX12_pays_45 shc_149 fl_X12_45 rfl (by decide) (by decide) ?_
      refine E_iload_n (M := mX12_pays) 49 rfl dX12_pays_48 rfl 2 rfl ?_
      replace h := Option.bind_eq_some_iff.mp h
      obtain ⟨v6, hv6, h⟩ := h
      refine E_ldL (M := mX12_pays) 50 rfl dX12_pays_49 shc_159 hv6 ?_
      refine E_l2i (M := mX12_pays) 51 rfl dX12_pays_50 ?_
      refine E_iadd (M := mX12_pays) 52 rfl dX12_pays_51 ?_
      replace h := Option.bind_eq_some_iff.mp h
      obtain ⟨w7, hw7, h⟩ := h
      refine E_cV0 (M := mX12_pays) (As := [.int x3, .int 2, .int (v5 + v6.toInt32)]) 55 rfl dX12_pays_52 shc_149 ck_X12_122 cv_X12_setsHeir rfl (by decide) (Nat.le_of_ble_eq_true rfl) (C_X12_setsHeir (g := g) hw7) rfl ?_
      refine E_iinc (M := mX12_pays) (j := 2) (v := x3 + 1) (lv' := [(3, .int (x3 + 1)), (0, .ref 149), (2, .int x2)]) 58 rfl dX12_pays_55 rfl rfl (Nat.le_of_ble_eq_true rfl) rfl ?_
      refine E_goto (M := mX12_pays) 27 (by decide) dX12_pays_58 ?_
      refine E_sub (M := mX12_pays) (lv' := [(0, .ref 149), (2, .int x2), (3, .int (x3 + 1))]) [1, 2, 0] rfl ?_
      exact ih x2 (x3 + 1) w7.1 w7.2 _ h
def f_X12_pays (x1 : Int32) (I : MI) (L : ML) : Option (MI × ML) := Option.bind (f_X12_of x1 4 I L) fun v1 => Option.bind (ldI I 150 2143 10) fun v2 => Option.bind (f_X12_parts x1 v1.toInt64 I L) fun w3 => Option.bind (stI w3.2.1 150 2143 10 (v2 + w3.1.toInt32)) fun I4 => f_X12_pays_27 FU v1 0 I4 w3.2.2
set_option maxRecDepth 100000 in
theorem S_X12_pays {g : Gx} (x1 : Int32) (I : MI) (L : ML) (res : MI × ML) (h : f_X12_pays x1 I L = some res) : E g 12 0 mX12_pays 0 [(0, .ref 149), (1, .int x1)] [] (I, L) (.inl none) (res.1, res.2) := by
  unfold f_X12_pays at h
  refine E_aload_n (M := mX12_pays) 1 rfl dX12_pays_0 rfl 0 rfl ?_
  refine E_iload_n (M := mX12_pays) 2 rfl dX12_pays_1 rfl 1 rfl ?_
  refine E_iconst (M := mX12_pays) (v := 4) 3 rfl dX12_pays_2 (by decide) ?_
  replace h := Option.bind_eq_some_iff.mp h
  obtain ⟨v1, hv1, h⟩ := h
  refine E_cV1 (M := mX12_pays) (As := [.int x1, .int 4]) 6 rfl dX12_pays_3 shc_149 ck_X12_260 cv_X12_of rfl (by decide) (Nat.le_of_ble_eq_true rfl) (C_X12_of (g := g) hv1) rfl ?_
  refine E_istore_n (M := mX12_pays) (lv' := [(2, .int v1), (0, .ref 149), (1, .int x1)]) 7 rfl dX12_pays_6 rfl (Nat.le_of_ble_eq_true rfl) rfl ?_
  refine E_aload_n (M := mX12_pays) 8 rfl dX12_pays_7 rfl 1 rfl ?_
  refine E_gR (M := mX12_pays) 150 11 rfl dX12_pays_8 shc_149 fl_X12_13 rfl (by decide) (by decide) ?_
  refine E_bipush (M := mX12_pays) (v := 10) 13 rfl dX12_pays_11 (by decide) ?_
  refine E_dup2 (M := mX12_pays) 14 rfl dX12_pays_13 rfl rfl ?_
  replace h := Option.bind_eq_some_iff.mp h
  obtain ⟨v2, hv2, h⟩ := h
  refine E_ldI (M := mX12_pays) 15 rfl dX12_pays_14 shc_150 hv2 ?_
  refine E_aload_n (M := mX12_pays) 16 rfl dX12_pays_15 rfl 1 rfl ?_
  refine E_iload_n (M := mX12_pays) 17 rfl dX12_pays_16 rfl 2 rfl ?_
  refine E_iload_n (M := mX12_pays) 18 rfl dX12_pays_17 rfl 0 rfl ?_
  refine E_i2l (M := mX12_pays) 19 rfl dX12_pays_18 ?_
  replace h := Option.bind_eq_some_iff.mp h
  obtain ⟨w3, hw3, h⟩ := h
  refine E_cV1 (M := mX12_pays) (As := [.int x1, .long v1.toInt64]) 22 rfl dX12_pays_19 shc_149 ck_X12_308 cv_X12_parts rfl (by decide) (Nat.le_of_ble_eq_true rfl) (C_X12_parts (g := g) hw3) rfl ?_
  refine E_l2i (M := mX12_pays) 23 rfl dX12_pays_22 ?_
  refine E_iadd (M := mX12_pays) 24 rfl dX12_pays_23 ?_
  replace h := Option.bind_eq_some_iff.mp h
  obtain ⟨I4, hI4, h⟩ := h
  refine E_stI (M := mX12_pays) 25 rfl dX12_pays_24 shc_150 hI4 ?_
  refine E_iconst (M := mX12_pays) (v := 0) 26 rfl dX12_pays_25 (by decide) ?_
  refine E_istore_n (M := mX12_pays) (lv' := [(3, .int 0), (2, .int v1), (0, .ref 149), (1, .int x1)]) 27 rfl dX12_pays_26 rfl (Nat.le_of_ble_eq_true rfl) rfl ?_
  refine E_sub (M := mX12_pays) (lv' := [(0, .ref 149), (2, .int v1), (3, .int 0)]) [2, 1, 0] rfl ?_
  exact S_X12_pays_27 FU v1 0 I4 w3.2.2 _ h
theorem C_X12_pays {g : Gx} {x1 : Int32} {I : MI} {L : ML} {res : MI × ML} (h : f_X12_pays x1 I L = some res) : Ent g 12 0 mX12_pays [.ref 149, .int x1] (I, L) (.inl none) (res.1, res.2) := Ent_of (by decide +kernel) (Nat.le_of_ble_eq_true rfl) (S_X12_pays x1 I L _ h)
def f_X12_hour_218 (k185 : Int32 → MI → ML → Option (MI × ML)) (x1 : Int32) (y1 : Int32) (y2 : Int32) (I : MI) (L : ML) : Option (MI × ML) := Option.bind (stI I 150 2143 y1 y2) fun I1 => k185 (x1 + 1) I1 L
set_option maxRecDepth 100000 in
theorem S_X12_hour_218 {g : Gx} {k185 : Int32 → MI → ML → Option (MI × ML)} (hk185 : ∀ (x1z : Int32) (I : MI) (L : ML) (res : MI × ML), k185 x1z I L = some res → E g 13 0 mX12_hour 185 [(0, .ref 149), (1, .int x1z)] [] (I, L) (.inl none) (res.1, res.2)) (x1 : Int32) (y1 : Int32) (y2 : Int32) (I : MI) (L : ML) (res : MI × ML) (h : f_X12_hour_218 k185 x1 y1 y2 I L = some res) : E g 13 0 mX12_hour 218 [(0, .ref 149), (1, .int x1)] [.int y2, .int y1, .ref 150] (I, L) (.inl none) (res.1, res.2) := by
  unfold f_X12_hour_218 at h
  replace h := Option.bind_eq_some_iff.mp h
  obtain ⟨I1, hI1, h⟩ := h
  refine E_stI (M := mX12_hour) 219 rfl dX12_hour_218 shc_150 hI1 ?_
  refine E_iinc (M := mX12_hour) (j := 1) (v := x1 + 1) (lv' := [(1, .int (x1 + 1)), (0, .ref 149)]) 222 rfl dX12_hour_219 rfl rfl (Nat.le_of_ble_eq_true rfl) rfl ?_
  refine E_goto (M := mX12_hour) 185 (by decide) dX12_hour_222 ?_
  refine E_sub (M := mX12_hour) (lv' := [(0, .ref 149), (1, .int (x1 + 1))]) [1, 0] rfl ?_
  exact hk185 (x1 + 1) I1 L _ h
def f_X12_hour_185 : Nat → Int32 → MI → ML → Option (MI × ML)
  | 0, _, _, _ => none
  | n + 1, x1, I, L => if 6 ≤ x1 then (Option.bind (ldI I 150 2143 14) fun v2 => Option.bind (stI I 150 2143 14 (if (v2 + 1) < 40 then (v2 + 1) else 40)) fun I3 => Option.bind (ldI I3 150 2143 7) fun v4 => Option.bind (stI I3 150 2143 7 (v4 + 1)) fun I5 => Option.bind (ldI I5 150 2143 7) fun v6 => if 24 ≤ v6 then (Option.bind (stI I5 150 2143 7 0) fun I8 => Option.bind (ldI I8 150 2143 6) fun v9 => Option.bind (stI I8 150 2143 6 (v9 + 1)) fun I10 => some (I10, L)) else (some (I5, L))) else (Option.bind (f_X12_heirs I L) fun v11 => if v11 ≤ x1 then (f_X12_hour_218 (f_X12_hour_185 n) x1 (205 + x1) ((-1)) I L) else (Option.bind (f_X12_ofHeir x1 0 I L) fun v13 => f_X12_hour_218 (f_X12_hour_185 n) x1 (205 + x1) v13 I L))
set_option maxRecDepth 100000 in
theorem S_X12_hour_185 {g : Gx} : ∀ (n : Nat) (x1 : Int32) (I : MI) (L : ML) (res : MI × ML), f_X12_hour_185 n x1 I L = some res → E g 13 0 mX12_hour 185 [(0, .ref 149), (1, .int x1)] [] (I, L) (.inl none) (res.1, res.2) := by
  intro n
  induction n with
  | zero =>
    intros
    rename_i h
    cases h
  | succ n ih =>
    intro x1 I L res h
    rw [f_X12_hour_185] at h
    refine E_iload_n (M := mX12_hour) 186 rfl dX12_hour_185 rfl 1 rfl ?_
    refine E_bipush (M := mX12_hour) (v := 6) 188 rfl dX12_hour_186 (by decide) ?_
    refine E_icmp_ge (M := mX12_hour) 225 191 (by decide) rfl dX12_hour_188 (fun c1 => ?_) (fun c1 => ?_)
    · rw [if_pos c1] at h
      refine E_aload_n (M := mX12_hour) 226 rfl dX12_hour_225 rfl 0 rfl ?_
      refine E_gR (M := mX12_hour) 150 229 rfl dX12_hour_226 shc_149 fl_X12_13 rfl (by decide) (by decide) ?_
      refine E_bipush (M := mX12_hour) (v := 14) 231 rfl dX12_hour_229 (by decide) ?_
      refine E_bipush (M := mX12_hour) (v := 40) 233 rfl dX12_hour_231 (by decide) ?_
      refine E_aload_n (M := mX12_hour) 234 rfl dX12_hour_233 rfl 0 rfl ?_
      refine E_gR (M := mX12_hour) 150 237 rfl dX12_hour_234 shc_149 fl_X12_13 rfl (by decide) (by decide) ?_
      refine E_bipush (M := mX12_hour) (v := 14) 239 rfl dX12_hour_237 (by decide) ?_
      replace h := Option.bind_eq_some_iff.mp h
      obtain ⟨v2, hv2, h⟩ := h
      refine E_ldI (M := mX12_hour) 240 rfl dX12_hour_239 shc_150 hv2 ?_
      refine E_iconst (M := mX12_hour) (v := 1) 241 rfl dX12_hour_240 (by decide) ?_
      refine E_iadd (M := mX12_hour) 242 rfl dX12_hour_241 ?_
      refine E_min (M := mX12_hour) 245 rfl dX12_hour_242 jm_X12_255 (by decide) (Nat.le_of_ble_eq_true rfl) ?_
      replace h := Option.bind_eq_some_iff.mp h
      obtain ⟨I3, hI3, h⟩ := h
      refine E_stI (M := mX12_hour) 246 rfl dX12_hour_245 shc_150 hI3 ?_
      refine E_aload_n (M := mX12_hour) 247 rfl dX12_hour_246 rfl 0 rfl ?_
      refine E_gR (M := mX12_hour) 150 250 rfl dX12_hour_247 shc_149 fl_X12_13 rfl (by decide) (by decide) ?_
      refine E_bipush (M := mX12_hour) (v := 7) 252 rfl dX12_hour_250 (by decide) ?_
      refine E_dup2 (M := mX12_hour) 253 rfl dX12_hour_252 rfl rfl ?_
      replace h := Option.bind_eq_some_iff.mp h
      obtain ⟨v4, hv4, h⟩ := h
      refine E_ldI (M := mX12_hour) 254 rfl dX12_hour_253 shc_150 hv4 ?_
      refine E_iconst (M := mX12_hour) (v := 1) 255 rfl dX12_hour_254 (by decide) ?_
      refine E_iadd (M := mX12_hour) 256 rfl dX12_hour_255 ?_
      replace h := Option.bind_eq_some_iff.mp h
      obtain ⟨I5, hI5, h⟩ := h
      refine E_stI (M := mX12_hour) 257 rfl dX12_hour_256 shc_150 hI5 ?_
      refine E_aload_n (M := mX12_hour) 258 rfl dX12_hour_257 rfl 0 rfl ?_
      refine E_gR (M := mX12_hour) 150 261 rfl dX12_hour_258 shc_149 fl_X12_13 rfl (by decide) (by decide) ?_
      refine E_bipush (M := mX12_hour) (v := 7) 263 rfl dX12_hour_261 (by decide) ?_
      replace h := Option.bind_eq_some_iff.mp h
      obtain ⟨v6, hv6, h⟩ := h
      refine E_ldI (M := mX12_hour) 264 rfl dX12_hour_263 shc_150 hv6 ?_
      refine E_bipush (M := mX12_hour) (v := 24) 266 rfl dX12_hour_264 (by decide) ?_
      refine E_icmp_ge (M := mX12_hour) 270 269 (by decide) rfl dX12_hour_266 (fun c7 => ?_) (fun c7 => ?_)
      · rw [if_pos c7] at h
        refine E_aload_n (M := mX12_hour) 271 rfl dX12_hour_270 rfl 0 rfl ?_
        refine E_gR (M := mX12_hour) 150 274 rfl dX12_hour_271 shc_149 fl_X12_13 rfl (by decide) (by decide) ?_
        refine E_bipush (M := mX12_hour) (v := 7) 276 rfl dX12_hour_274 (by decide) ?_
        refine E_iconst (M := mX12_hour) (v := 0) 277 rfl dX12_hour_276 (by decide) ?_
        replace h := Option.bind_eq_some_iff.mp h
        obtain ⟨I8, hI8, h⟩ := h
        refine E_stI (M := mX12_hour) 278 rfl dX12_hour_277 shc_150 hI8 ?_
        refine E_aload_n (M := mX12_hour) 279 rfl dX12_hour_278 rfl 0 rfl ?_
        refine E_gR (M := mX12_hour) 150 282 rfl dX12_hour_279 shc_149 fl_X12_13 rfl (by decide) (by decide) ?_
        refine E_bipush (M := mX12_hour) (v := 6) 284 rfl dX12_hour_282 (by decide) ?_
        refine E_dup2 (M := mX12_hour) 285 rfl dX12_hour_284 rfl rfl ?_
        replace h := Option.bind_eq_some_iff.mp h
        obtain ⟨v9, hv9, h⟩ := h
        refine E_ldI (M := mX12_hour) 286 rfl dX12_hour_285 shc_150 hv9 ?_
        refine E_iconst (M := mX12_hour) (v := 1) 287 rfl dX12_hour_286 (by decide) ?_
        refine E_iadd (M := mX12_hour) 288 rfl dX12_hour_287 ?_
        replace h := Option.bind_eq_some_iff.mp h
        obtain ⟨I10, hI10, h⟩ := h
        refine E_stI (M := mX12_hour) 289 rfl dX12_hour_288 shc_150 hI10 ?_
        cases h
        exact E_vret (M := mX12_hour) rfl dX12_hour_289
      · rw [if_neg c7] at h
        cases h
        exact E_vret (M := mX12_hour) rfl dX12_hour_269
    · rw [if_neg c1] at h
      refine E_aload_n (M := mX12_hour) 192 rfl dX12_hour_191 rfl 0 rfl ?_
      refine E_gR (M := mX12_hour) 150 195 rfl dX12_hour_192 shc_149 fl_X12_13 rfl (by decide) (by decide) ?_
      refine E_sipush (M := mX12_hour) (v := 205) 198 rfl dX12_hour_195 (by decide) ?_
      refine E_iload_n (M := mX12_hour) 199 rfl dX12_hour_198 rfl 1 rfl ?_
      refine E_iadd (M := mX12_hour) 200 rfl dX12_hour_199 ?_
      refine E_iload_n (M := mX12_hour) 201 rfl dX12_hour_200 rfl 1 rfl ?_
      refine E_aload_n (M := mX12_hour) 202 rfl dX12_hour_201 rfl 0 rfl ?_
      replace h := Option.bind_eq_some_iff.mp h
      obtain ⟨v11, hv11, h⟩ := h
      refine E_cV1 (M := mX12_hour) (As := []) 205 rfl dX12_hour_202 shc_149 ck_X12_64 cv_X12_heirs rfl (by decide) (Nat.le_of_ble_eq_true rfl) (C_X12_heirs (g := g) hv11) rfl ?_
      refine E_icmp_ge (M := mX12_hour) 217 208 (by decide) rfl dX12_hour_205 (fun c12 => ?_) (fun c12 => ?_)
      · rw [if_pos c12] at h
        refine E_iconst (M := mX12_hour) (v := (-1)) 218 rfl dX12_hour_217 (by decide) ?_
        refine E_sub (M := mX12_hour) (lv' := [(0, .ref 149), (1, .int x1)]) [0, 1] rfl ?_
        exact S_X12_hour_218 ih x1 (205 + x1) ((-1)) I L _ h
      · rw [if_neg c12] at h
        refine E_aload_n (M := mX12_hour) 209 rfl dX12_hour_208 rfl 0 rfl ?_
        refine E_iload_n (M := mX12_hour) 210 rfl dX12_hour_209 rfl 1 rfl ?_
        refine E_iconst (M := mX12_hour) (v := 0) 211 rfl dX12_hour_210 (by decide) ?_
        replace h := Option.bind_eq_some_iff.mp h
        obtain ⟨v13, hv13, h⟩ := h
        refine E_cV1 (M := mX12_hour) (As := [.int x1, .int 0]) 214 rfl dX12_hour_211 shc_149 ck_X12_266 cv_X12_ofHeir rfl (by decide) (Nat.le_of_ble_eq_true rfl) (C_X12_ofHeir (g := g) hv13) rfl ?_
        refine E_goto (M := mX12_hour) 218 (by decide) dX12_hour_214 ?_
        refine E_sub (M := mX12_hour) (lv' := [(0, .ref 149), (1, .int x1)]) [0, 1] rfl ?_
        exact S_X12_hour_218 ih x1 (205 + x1) v13 I L _ h
def f_X12_hour_148 : Nat → Int32 → MI → ML → Option (MI × ML)
  | 0, _, _, _ => none
  | n + 1, x1, I, L => if x1 < 6 then (f_X12_hour_185 FU 0 I L) else (Option.bind (ldI I 150 2143 ((205 + x1) - 6)) fun v2 => Option.bind (stI I 150 2143 (205 + x1) v2) fun I3 => f_X12_hour_148 n (x1 + (-1)) I3 L)
set_option maxRecDepth 100000 in
theorem S_X12_hour_148 {g : Gx} : ∀ (n : Nat) (x1 : Int32) (I : MI) (L : ML) (res : MI × ML), f_X12_hour_148 n x1 I L = some res → E g 13 0 mX12_hour 148 [(0, .ref 149), (1, .int x1)] [] (I, L) (.inl none) (res.1, res.2) := by
  intro n
  induction n with
  | zero =>
    intros
    rename_i h
    cases h
  | succ n ih =>
    intro x1 I L res h
    rw [f_X12_hour_148] at h
    refine E_iload_n (M := mX12_hour) 149 rfl dX12_hour_148 rfl 1 rfl ?_
    refine E_bipush (M := mX12_hour) (v := 6) 151 rfl dX12_hour_149 (by decide) ?_
    refine E_icmp_lt (M := mX12_hour) 183 154 (by decide) rfl dX12_hour_151 (fun c1 => ?_) (fun c1 => ?_)
    · rw [if_pos c1] at h
      refine E_iconst (M := mX12_hour) (v := 0) 184 rfl dX12_hour_183 (by decide) ?_
      refine E_istore_n (M := mX12_hour) (lv' := [(1, .int 0), (0, .ref 149)]) 185 rfl dX12_hour_184 rfl (Nat.le_of_ble_eq_true rfl) rfl ?_
      refine E_sub (M := mX12_hour) (lv' := [(0, .ref 149), (1, .int 0)]) [1, 0] rfl ?_
      exact S_X12_hour_185 FU 0 I L _ h
    · rw [if_neg c1] at h
      refine E_aload_n (M := mX12_hour) 155 rfl dX12_hour_154 rfl 0 rfl ?_
      refine E_gR (M := mX12_hour) 150 158 rfl dX12_hour_155 shc_149 fl_X12_13 rfl (by decide) (by decide) ?_
      refine E_sipush (M := mX12_hour) (v := 205) 161 rfl dX12_hour_158 (by decide) ?_
      refine E_iload_n (M := mX12_hour) 162 rfl dX12_hour_161 rfl 1 rfl ?_
      refine E_iadd (M := mX12_hour) 163 rfl dX12_hour_162 ?_
      refine E_aload_n (M := mX12_hour) 164 rfl dX12_hour_163 rfl 0 rfl ?_
      refine E_gR (M := mX12_hour) 150 167 rfl dX12_hour_164 shc_149 fl_X12_13 rfl (by decide) (by decide) ?_
      refine E_sipush (M := mX12_hour) (v := 205) 170 rfl dX12_hour_167 (by decide) ?_
      refine E_iload_n (M := mX12_hour) 171 rfl dX12_hour_170 rfl 1 rfl ?_
      refine E_iadd (M := mX12_hour) 172 rfl dX12_hour_171 ?_
      refine E_bipush (M := mX12_hour) (v := 6) 174 rfl dX12_hour_172 (by decide) ?_
      refine E_isub (M := mX12_hour) 175 rfl dX12_hour_174 ?_
      replace h := Option.bind_eq_some_iff.mp h
      obtain ⟨v2, hv2, h⟩ := h
      refine E_ldI (M := mX12_hour) 176 rfl dX12_hour_175 shc_150 hv2 ?_
      replace h := Option.bind_eq_some_iff.mp h
      obtain ⟨I3, hI3, h⟩ := h
      refine E_stI (M := mX12_hour) 177 rfl dX12_hour_176 shc_150 hI3 ?_
      refine E_iinc (M := mX12_hour) (j := 1) (v := x1 + (-1)) (lv' := [(1, .int (x1 + (-1))), (0, .ref 149)]) 180 rfl dX12_hour_177 rfl rfl (Nat.le_of_ble_eq_true rfl) rfl ?_
      refine E_goto (M := mX12_hour) 148 (by decide) dX12_hour_180 ?_
      refine E_sub (M := mX12_hour) (lv' := [(0, .ref 149), (1, .int (x1 + (-1)))]) [1, 0] rfl ?_
      exact ih (x1 + (-1)) I3 L _ h
def f_X12_hour_122 : Nat → Int32 → MI → ML → Option (MI × ML)
  | 0, _, _, _ => none
  | n + 1, x1, I, L => Option.bind (f_X12_noises I L) fun v1 => if v1 ≤ x1 then (f_X12_hour_148 FU 239 I L) else (Option.bind (f_X12_sets x1 9 0 I L) fun w3 => f_X12_hour_122 n (x1 + 1) w3.1 w3.2)
set_option maxRecDepth 100000 in
theorem S_X12_hour_122 {g : Gx} : ∀ (n : Nat) (x1 : Int32) (I : MI) (L : ML) (res : MI × ML), f_X12_hour_122 n x1 I L = some res → E g 13 0 mX12_hour 122 [(0, .ref 149), (1, .int x1)] [] (I, L) (.inl none) (res.1, res.2) := by
  intro n
  induction n with
  | zero =>
    intros
    rename_i h
    cases h
  | succ n ih =>
    intro x1 I L res h
    rw [f_X12_hour_122] at h
    refine E_iload_n (M := mX12_hour) 123 rfl dX12_hour_122 rfl 1 rfl ?_
    refine E_aload_n (M := mX12_hour) 124 rfl dX12_hour_123 rfl 0 rfl ?_
    replace h := Option.bind_eq_some_iff.mp h
    obtain ⟨v1, hv1, h⟩ := h
    refine E_cV1 (M := mX12_hour) (As := []) 127 rfl dX12_hour_124 shc_149 ck_X12_67 cv_X12_noises rfl (by decide) (Nat.le_of_ble_eq_true rfl) (C_X12_noises (g := g) hv1) rfl ?_
    refine E_icmp_ge (M := mX12_hour) 144 130 (by decide) rfl dX12_hour_127 (fun c2 => ?_) (fun c2 => ?_)
    · rw [if_pos c2] at h
      refine E_sipush (M := mX12_hour) (v := 239) 147 rfl dX12_hour_144 (by decide) ?_
      refine E_istore_n (M := mX12_hour) (lv' := [(1, .int 239), (0, .ref 149)]) 148 rfl dX12_hour_147 rfl (Nat.le_of_ble_eq_true rfl) rfl ?_
      refine E_sub (M := mX12_hour) (lv' := [(0, .ref 149), (1, .int 239)]) [1, 0] rfl ?_
      exact S_X12_hour_148 FU 239 I L _ h
    · rw [if_neg c2] at h
      refine E_aload_n (M := mX12_hour) 131 rfl dX12_hour_130 rfl 0 rfl ?_
      refine E_iload_n (M := mX12_hour) 132 rfl dX12_hour_131 rfl 1 rfl ?_
      refine E_bipush (M := mX12_hour) (v := 9) 134 rfl dX12_hour_132 (by decide) ?_
      refine E_iconst (M := mX12_hour) (v := 0) 135 rfl dX12_hour_134 (by decide) ?_
      replace h := Option.bind_eq_some_iff.mp h
      obtain ⟨w3, hw3, h⟩ := h
      refine E_cV0 (M := mX12_hour) (As := [.int x1, .int 9, .int 0]) 138 rfl dX12_hour_135 shc_149 ck_X12_143 cv_X12_sets rfl (by decide) (Nat.le_of_ble_eq_true rfl) (C_X12_sets (g := g) hw3) rfl ?_
      refine E_iinc (M := mX12_hour) (j := 1) (v := x1 + 1) (lv' := [(1, .int (x1 + 1)), (0, .ref 149)]) 141 rfl dX12_hour_138 rfl rfl (Nat.le_of_ble_eq_true rfl) rfl ?_
      refine E_goto (M := mX12_hour) 122 (by decide) dX12_hour_141 ?_
      refine E_sub (M := mX12_hour) (lv' := [(0, .ref 149), (1, .int (x1 + 1))]) [1, 0] rfl ?_
      exact ih (x1 + 1) w3.1 w3.2 _ h
def f_X12_hour_114 (k30 : Int32 → MI → ML → Option (MI × ML)) (x1 : Int32) (I : MI) (L : ML) : Option (MI × ML) := k30 (x1 + 1) I L
set_option maxRecDepth 100000 in
theorem S_X12_hour_114 {g : Gx} {k30 : Int32 → MI → ML → Option (MI × ML)} (hk30 : ∀ (x1z : Int32) (I : MI) (L : ML) (res : MI × ML), k30 x1z I L = some res → E g 13 0 mX12_hour 30 [(0, .ref 149), (1, .int x1z)] [] (I, L) (.inl none) (res.1, res.2)) (x1 : Int32) (I : MI) (L : ML) (res : MI × ML) (h : f_X12_hour_114 k30 x1 I L = some res) : E g 13 0 mX12_hour 114 [(0, .ref 149), (1, .int x1)] [] (I, L) (.inl none) (res.1, res.2) := by
  unfold f_X12_hour_114 at h
  refine E_iinc (M := mX12_hour) (j := 1) (v := x1 + 1) (lv' := [(1, .int (x1 + 1)), (0, .ref 149)]) 117 rfl dX12_hour_114 rfl rfl (Nat.le_of_ble_eq_true rfl) rfl ?_
  refine E_goto (M := mX12_hour) 30 (by decide) dX12_hour_117 ?_
  refine E_sub (M := mX12_hour) (lv' := [(0, .ref 149), (1, .int (x1 + 1))]) [1, 0] rfl ?_
  exact hk30 (x1 + 1) I L _ h
def f_X12_hour_62 (k30 : Int32 → MI → ML → Option (MI × ML)) (x1 : Int32) (I : MI) (L : ML) : Option (MI × ML) := Option.bind (ldI I 150 2143 6) fun v1 => Option.bind (ldI I 150 2143 7) fun v2 => Option.bind (f_X12_sets x1 7 ((24 * v1) + v2) I L) fun w3 => Option.bind (f_X12_of x1 8 w3.1 w3.2) fun v4 => Option.bind (f_X12_sets x1 8 (v4 + 1) w3.1 w3.2) fun w5 => Option.bind (ldI w5.1 150 2143 12) fun v6 => Option.bind (stI w5.1 150 2143 12 (v6 + 1)) fun I7 => f_X12_hour_114 k30 x1 I7 w5.2
set_option maxRecDepth 100000 in
theorem S_X12_hour_62 {g : Gx} {k30 : Int32 → MI → ML → Option (MI × ML)} (hk30 : ∀ (x1z : Int32) (I : MI) (L : ML) (res : MI × ML), k30 x1z I L = some res → E g 13 0 mX12_hour 30 [(0, .ref 149), (1, .int x1z)] [] (I, L) (.inl none) (res.1, res.2)) (x1 : Int32) (I : MI) (L : ML) (res : MI × ML) (h : f_X12_hour_62 k30 x1 I L = some res) : E g 13 0 mX12_hour 62 [(0, .ref 149), (1, .int x1)] [] (I, L) (.inl none) (res.1, res.2) := by
  unfold f_X12_hour_62 at h
  refine E_aload_n (M := mX12_hour) 63 rfl dX12_hour_62 rfl 0 rfl ?_
  refine E_iload_n (M := mX12_hour) 64 rfl dX12_hour_63 rfl 1 rfl ?_
  refine E_bipush (M := mX12_hour) (v := 7) 66 rfl dX12_hour_64 (by decide) ?_
  refine E_bipush (M := mX12_hour) (v := 24) 68 rfl dX12_hour_66 (by decide) ?_
  refine E_aload_n (M := mX12_hour) 69 rfl dX12_hour_68 rfl 0 rfl ?_
  refine E_gR (M := mX12_hour) 150 72 rfl dX12_hour_69 shc_149 fl_X12_13 rfl (by decide) (by decide) ?_
  refine E_bipush (M := mX12_hour) (v := 6) 74 rfl dX12_hour_72 (by decide) ?_
  replace h := Option.bind_eq_some_iff.mp h
  obtain ⟨v1, hv1, h⟩ := h
  refine E_ldI (M := mX12_hour) 75 rfl dX12_hour_74 shc_150 hv1 ?_
  refine E_imul (M := mX12_hour) 76 rfl dX12_hour_75 ?_
  refine E_aload_n (M := mX12_hour) 77 rfl dX12_hour_76 rfl 0 rfl ?_
  refine E_gR (M := mX12_hour) 150 80 rfl dX12_hour_77 shc_149 fl_X12_13 rfl (by decide) (by decide) ?_
  refine E_bipush (M := mX12_hour) (v := 7) 82 rfl dX12_hour_80 (by decide) ?_
  replace h := Option.bind_eq_some_iff.mp h
  obtain ⟨v2, hv2, h⟩ := h
  refine E_ldI (M := mX12_hour) 83 rfl dX12_hour_82 shc_150 hv2 ?_
  refine E_iadd (M := mX12_hour) 84 rfl dX12_hour_83 ?_
  replace h := Option.bind_eq_some_iff.mp h
  obtain ⟨w3, hw3, h⟩ := h
  refine E_cV0 (M := mX12_hour) (As := [.int x1, .int 7, .int ((24 * v1) + v2)]) 87 rfl dX12_hour_84 shc_149 ck_X12_143 cv_X12_sets rfl (by decide) (Nat.le_of_ble_eq_true rfl) (C_X12_sets (g := g) hw3) rfl ?_
  refine E_aload_n (M := mX12_hour) 88 rfl dX12_hour_87 rfl 0 rfl ?_
  refine E_iload_n (M := mX12_hour) 89 rfl dX12_hour_88 rfl 1 rfl ?_
  refine E_bipush (M := mX12_hour) (v := 8) 91 rfl dX12_hour_89 (by decide) ?_
  refine E_aload_n (M := mX12_hour) 92 rfl dX12_hour_91 rfl 0 rfl ?_
  refine E_iload_n (M := mX12_hour) 93 rfl dX12_hour_92 rfl 1 rfl ?_
  refine E_bipush (M := mX12_hour) (v := 8) 95 rfl dX12_hour_93 (by decide) ?_
  replace h := Option.bind_eq_some_iff.mp h
  obtain ⟨v4, hv4, h⟩ := h
  refine E_cV1 (M := mX12_hour) (As := [.int x1, .int 8]) 98 rfl dX12_hour_95 shc_149 ck_X12_260 cv_X12_of rfl (by decide) (Nat.le_of_ble_eq_true rfl) (C_X12_of (g := g) hv4) rfl ?_
  refine E_iconst (M := mX12_hour) (v := 1) 99 rfl dX12_hour_98 (by decide) ?_
  refine E_iadd (M := mX12_hour) 100 rfl dX12_hour_99 ?_
  replace h := Option.bind_eq_some_iff.mp h
  obtain ⟨w5, hw5, h⟩ := h
  refine E_cV0 (M := mX12_hour) (As := [.int x1, .int 8, .int (v4 + 1)]) 103 rfl dX12_hour_100 shc_149 ck_X12_143 cv_X12_sets rfl (by decide) (Nat.le_of_ble_eq_true rfl) (C_X12_sets (g := g) hw5) rfl ?_
  refine E_aload_n (M := mX12_hour) 104 rfl dX12_hour_103 rfl 0 rfl ?_
  refine E_gR (M := mX12_hour) 150 107 rfl dX12_hour_104 shc_149 fl_X12_13 rfl (by decide) (by decide) ?_
  refine E_bipush (M := mX12_hour) (v := 12) 109 rfl dX12_hour_107 (by decide) ?_
  refine E_dup2 (M := mX12_hour) 110 rfl dX12_hour_109 rfl rfl ?_
  replace h := Option.bind_eq_some_iff.mp h
  obtain ⟨v6, hv6, h⟩ := h
  refine E_ldI (M := mX12_hour) 111 rfl dX12_hour_110 shc_150 hv6 ?_
  refine E_iconst (M := mX12_hour) (v := 1) 112 rfl dX12_hour_111 (by decide) ?_
  refine E_iadd (M := mX12_hour) 113 rfl dX12_hour_112 ?_
  replace h := Option.bind_eq_some_iff.mp h
  obtain ⟨I7, hI7, h⟩ := h
  refine E_stI (M := mX12_hour) 114 rfl dX12_hour_113 shc_150 hI7 ?_
  refine E_sub (M := mX12_hour) (lv' := [(0, .ref 149), (1, .int x1)]) [0, 1] rfl ?_
  exact S_X12_hour_114 hk30 x1 I7 w5.2 _ h
def f_X12_hour_30 : Nat → Int32 → MI → ML → Option (MI × ML)
  | 0, _, _, _ => none
  | n + 1, x1, I, L => Option.bind (f_X12_noises I L) fun v1 => if v1 ≤ x1 then (f_X12_hour_122 FU 0 I L) else (Option.bind (f_X12_sounds x1 I L) fun w3 => if w3.1 = true then (Option.bind (f_X12_isHeard x1 w3.2.1 w3.2.2) fun v5 => if v5 = true then (Option.bind (f_X12_pays x1 w3.2.1 w3.2.2) fun w7 => f_X12_hour_62 (f_X12_hour_30 n) x1 w7.1 w7.2) else (f_X12_hour_62 (f_X12_hour_30 n) x1 w3.2.1 w3.2.2)) else (f_X12_hour_114 (f_X12_hour_30 n) x1 w3.2.1 w3.2.2))
set_option maxRecDepth 100000 in
theorem S_X12_hour_30 {g : Gx} : ∀ (n : Nat) (x1 : Int32) (I : MI) (L : ML) (res : MI × ML), f_X12_hour_30 n x1 I L = some res → E g 13 0 mX12_hour 30 [(0, .ref 149), (1, .int x1)] [] (I, L) (.inl none) (res.1, res.2) := by
  intro n
  induction n with
  | zero =>
    intros
    rename_i h
    cases h
  | succ n ih =>
    intro x1 I L res h
    rw [f_X12_hour_30] at h
    refine E_iload_n (M := mX12_hour) 31 rfl dX12_hour_30 rfl 1 rfl ?_
    refine E_aload_n (M := mX12_hour) 32 rfl dX12_hour_31 rfl 0 rfl ?_
    replace h := Option.bind_eq_some_iff.mp h
    obtain ⟨v1, hv1, h⟩ := h
    refine E_cV1 (M := mX12_hour) (As := []) 35 rfl dX12_hour_32 shc_149 ck_X12_67 cv_X12_noises rfl (by decide) (Nat.le_of_ble_eq_true rfl) (C_X12_noises (g := g) hv1) rfl ?_
    refine E_icmp_ge (M := mX12_hour) 120 38 (by decide) rfl dX12_hour_35 (fun c2 => ?_) (fun c2 => ?_)
    · rw [if_pos c2] at h
      refine E_iconst (M := mX12_hour) (v := 0) 121 rfl dX12_hour_120 (by decide) ?_
      refine E_istore_n (M := mX12_hour) (lv' := [(1, .int 0), (0, .ref 149)]) 122 rfl dX12_hour_121 rfl (Nat.le_of_ble_eq_true rfl) rfl ?_
      refine E_sub (M := mX12_hour) (lv' := [(0, .ref 149), (1, .int 0)]) [1, 0] rfl ?_
      exact S_X12_hour_122 FU 0 I L _ h
    · rw [if_neg c2] at h
      refine E_aload_n (M := mX12_hour) 39 rfl dX12_hour_38 rfl 0 rfl ?_
      refine E_iload_n (M := mX12_hour) 40 rfl dX12_hour_39 rfl 1 rfl ?_
      replace h := Option.bind_eq_some_iff.mp h
      obtain ⟨w3, hw3, h⟩ := h
      refine E_cV1 (M := mX12_hour) (As := [.int x1]) 43 rfl dX12_hour_40 shc_149 ck_X12_317 cv_X12_sounds rfl (by decide) (Nat.le_of_ble_eq_true rfl) (C_X12_sounds (g := g) hw3) rfl ?_
      refine E_if_neB (M := mX12_hour) 49 46 (by decide) rfl dX12_hour_43 (fun c4 => ?_) (fun c4 => ?_)
      · rw [if_pos c4] at h
        refine E_aload_n (M := mX12_hour) 50 rfl dX12_hour_49 rfl 0 rfl ?_
        refine E_iload_n (M := mX12_hour) 51 rfl dX12_hour_50 rfl 1 rfl ?_
        replace h := Option.bind_eq_some_iff.mp h
        obtain ⟨v5, hv5, h⟩ := h
        refine E_cV1 (M := mX12_hour) (As := [.int x1]) 54 rfl dX12_hour_51 shc_149 ck_X12_320 cv_X12_isHeard rfl (by decide) (Nat.le_of_ble_eq_true rfl) (C_X12_isHeard (g := g) hv5) rfl ?_
        refine E_if_eqB (M := mX12_hour) 62 57 (by decide) rfl dX12_hour_54 (fun c6 => ?_) (fun c6 => ?_)
        · rw [if_neg (by rw [c6]; decide)] at h
          refine E_sub (M := mX12_hour) (lv' := [(0, .ref 149), (1, .int x1)]) [0, 1] rfl ?_
          exact S_X12_hour_62 ih x1 w3.2.1 w3.2.2 _ h
        · rw [if_pos c6] at h
          refine E_aload_n (M := mX12_hour) 58 rfl dX12_hour_57 rfl 0 rfl ?_
          refine E_iload_n (M := mX12_hour) 59 rfl dX12_hour_58 rfl 1 rfl ?_
          replace h := Option.bind_eq_some_iff.mp h
          obtain ⟨w7, hw7, h⟩ := h
          refine E_cV0 (M := mX12_hour) (As := [.int x1]) 62 rfl dX12_hour_59 shc_149 ck_X12_323 cv_X12_pays rfl (by decide) (Nat.le_of_ble_eq_true rfl) (C_X12_pays (g := g) hw7) rfl ?_
          refine E_sub (M := mX12_hour) (lv' := [(0, .ref 149), (1, .int x1)]) [0, 1] rfl ?_
          exact S_X12_hour_62 ih x1 w7.1 w7.2 _ h
      · rw [if_neg (by rw [c4]; decide)] at h
        refine E_goto (M := mX12_hour) 114 (by decide) dX12_hour_46 ?_
        refine E_sub (M := mX12_hour) (lv' := [(0, .ref 149), (1, .int x1)]) [0, 1] rfl ?_
        exact S_X12_hour_114 ih x1 w3.2.1 w3.2.2 _ h
def f_X12_hour_27 (y1 : Int32) (y2 : Bool) (I : MI) (L : ML) : Option (MI × ML) := Option.bind (stI I 150 2143 y1 (bI y2)) fun I1 => f_X12_hour_30 FU 0 I1 L
set_option maxRecDepth 100000 in
theorem S_X12_hour_27 {g : Gx} (y1 : Int32) (y2 : Bool) (I : MI) (L : ML) (res : MI × ML) (h : f_X12_hour_27 y1 y2 I L = some res) : E g 13 0 mX12_hour 27 [(0, .ref 149)] [.int (bI y2), .int y1, .ref 150] (I, L) (.inl none) (res.1, res.2) := by
  unfold f_X12_hour_27 at h
  replace h := Option.bind_eq_some_iff.mp h
  obtain ⟨I1, hI1, h⟩ := h
  refine E_stI (M := mX12_hour) 28 rfl dX12_hour_27 shc_150 hI1 ?_
  refine E_iconst (M := mX12_hour) (v := 0) 29 rfl dX12_hour_28 (by decide) ?_
  refine E_istore_n (M := mX12_hour) (lv' := [(1, .int 0), (0, .ref 149)]) 30 rfl dX12_hour_29 rfl (Nat.le_of_ble_eq_true rfl) rfl ?_
  refine E_sub (M := mX12_hour) (lv' := [(0, .ref 149), (1, .int 0)]) [1, 0] rfl ?_
  exact S_X12_hour_30 FU 0 I1 L _ h
def f_X12_hour (I : MI) (L : ML) : Option (MI × ML) := Option.bind (f_X12_draw 100 I L) fun w1 => Option.bind (ldI w1.2.1 150 2143 8) fun v2 => if v2 ≤ w1.1 then (f_X12_hour_27 9 false w1.2.1 w1.2.2) else (f_X12_hour_27 9 true w1.2.1 w1.2.2)
set_option maxRecDepth 100000 in
theorem S_X12_hour {g : Gx} (I : MI) (L : ML) (res : MI × ML) (h : f_X12_hour I L = some res) : E g 13 0 mX12_hour 0 [(0, .ref 149)] [] (I, L) (.inl none) (res.1, res.2) := by
  unfold f_X12_hour at h
  refine E_aload_n (M := mX12_hour) 1 rfl dX12_hour_0 rfl 0 rfl ?_
  refine E_gR (M := mX12_hour) 150 4 rfl dX12_hour_1 shc_149 fl_X12_13 rfl (by decide) (by decide) ?_
  refine E_bipush (M := mX12_hour) (v := 9) 6 rfl dX12_hour_4 (by decide) ?_
  refine E_aload_n (M := mX12_hour) 7 rfl dX12_hour_6 rfl 0 rfl ?_
  refine E_bipush (M := mX12_hour) (v := 100) 9 rfl dX12_hour_7 (by decide) ?_
  replace h := Option.bind_eq_some_iff.mp h
  obtain ⟨w1, hw1, h⟩ := h
  refine E_cV1 (M := mX12_hour) (As := [.int 100]) 12 rfl dX12_hour_9 shc_149 ck_X12_313 cv_X12_draw rfl (by decide) (Nat.le_of_ble_eq_true rfl) (C_X12_draw (g := g) hw1) rfl ?_
  refine E_aload_n (M := mX12_hour) 13 rfl dX12_hour_12 rfl 0 rfl ?_
  refine E_gR (M := mX12_hour) 150 16 rfl dX12_hour_13 shc_149 fl_X12_13 rfl (by decide) (by decide) ?_
  refine E_bipush (M := mX12_hour) (v := 8) 18 rfl dX12_hour_16 (by decide) ?_
  replace h := Option.bind_eq_some_iff.mp h
  obtain ⟨v2, hv2, h⟩ := h
  refine E_ldI (M := mX12_hour) 19 rfl dX12_hour_18 shc_150 hv2 ?_
  refine E_icmp_ge (M := mX12_hour) 26 22 (by decide) rfl dX12_hour_19 (fun c3 => ?_) (fun c3 => ?_)
  · rw [if_pos c3] at h
    refine E_iconst (M := mX12_hour) (v := 0) 27 rfl dX12_hour_26 (by decide) ?_
    refine E_sub (M := mX12_hour) (lv' := [(0, .ref 149)]) [0] rfl ?_
    exact S_X12_hour_27 9 false w1.2.1 w1.2.2 _ h
  · rw [if_neg c3] at h
    refine E_iconst (M := mX12_hour) (v := 1) 23 rfl dX12_hour_22 (by decide) ?_
    refine E_goto (M := mX12_hour) 27 (by decide) dX12_hour_23 ?_
    refine E_sub (M := mX12_hour) (lv' := [(0, .ref 149)]) [0] rfl ?_
    exact S_X12_hour_27 9 true w1.2.1 w1.2.2 _ h
theorem C_X12_hour {g : Gx} {I : MI} {L : ML} {res : MI × ML} (h : f_X12_hour I L = some res) : Ent g 13 0 mX12_hour [.ref 149] (I, L) (.inl none) (res.1, res.2) := Ent_of (by decide +kernel) (Nat.le_of_ble_eq_true rfl) (S_X12_hour I L _ h)
def f_X12_hours_45 : Nat → Int32 → Int32 → Int32 → MI → ML → Option (Int32 × MI × ML)
  | 0, _, _, _, _, _ => none
  | n + 1, x1, x2, x3, I, L => if x1 ≤ x3 then (Option.bind (pfI I 149 6 0) fun I2 => Option.bind (ldI I2 150 2143 12) fun v3 => some (v3 - x2, I2, L)) else (Option.bind (f_X12_hour I L) fun w4 => f_X12_hours_45 n x1 x2 (x3 + 1) w4.1 w4.2)
set_option maxRecDepth 100000 in
theorem S_X12_hours_45 {g : Gx} : ∀ (n : Nat) (x1 : Int32) (x2 : Int32) (x3 : Int32) (I : MI) (L : ML) (res : Int32 × MI × ML), f_X12_hours_45 n x1 x2 x3 I L = some res → E g 14 0 mX12_hours 45 [(0, .ref 149), (1, .int x1), (2, .int x2), (3, .int x3)] [] (I, L) (.inl (some (.int res.1))) (res.2.1, res.2.2) := by
  intro n
  induction n with
  | zero =>
    intros
    rename_i h
    cases h
  | succ n ih =>
    intro x1 x2 x3 I L res h
    rw [f_X12_hours_45] at h
    refine E_iload_n (M := mX12_hours) 46 rfl dX12_hours_45 rfl 3 rfl ?_
    refine E_iload_n (M := mX12_hours) 47 rfl dX12_hours_46 rfl 1 rfl ?_
    refine E_icmp_ge (M := mX12_hours) 60 50 (by decide) rfl dX12_hours_47 (fun c1 => ?_) (fun c1 => ?_)
    · rw [if_pos c1] at h
      refine E_aload_n (M := mX12_hours) 61 rfl dX12_hours_60 rfl 0 rfl ?_
      refine E_iconst (M := mX12_hours) (v := 0) 62 rfl dX12_hours_61 (by decide) ?_
      replace h := Option.bind_eq_some_iff.mp h
      obtain ⟨I2, hI2, h⟩ := h
      refine E_pfI (M := mX12_hours) 65 rfl dX12_hours_62 shc_149 fl_X12_53 rfl hI2 ?_
      refine E_aload_n (M := mX12_hours) 66 rfl dX12_hours_65 rfl 0 rfl ?_
      refine E_gR (M := mX12_hours) 150 69 rfl dX12_hours_66 shc_149 fl_X12_13 rfl (by decide) (by decide) ?_
      refine E_bipush (M := mX12_hours) (v := 12) 71 rfl dX12_hours_69 (by decide) ?_
      replace h := Option.bind_eq_some_iff.mp h
      obtain ⟨v3, hv3, h⟩ := h
      refine E_ldI (M := mX12_hours) 72 rfl dX12_hours_71 shc_150 hv3 ?_
      refine E_iload_n (M := mX12_hours) 73 rfl dX12_hours_72 rfl 2 rfl ?_
      refine E_isub (M := mX12_hours) 74 rfl dX12_hours_73 ?_
      cases h
      exact E_iret (M := mX12_hours) rfl dX12_hours_74
    · rw [if_neg c1] at h
      refine E_aload_n (M := mX12_hours) 51 rfl dX12_hours_50 rfl 0 rfl ?_
      replace h := Option.bind_eq_some_iff.mp h
      obtain ⟨w4, hw4, h⟩ := h
      refine E_cV0 (M := mX12_hours) (As := []) 54 rfl dX12_hours_51 shc_149 ck_X12_327 cv_X12_hour rfl (by decide) (Nat.le_of_ble_eq_true rfl) (C_X12_hour (g := g) hw4) rfl ?_
      refine E_iinc (M := mX12_hours) (j := 3) (v := x3 + 1) (lv' := [(3, .int (x3 + 1)), (0, .ref 149), (1, .int x1), (2, .int x2)]) 57 rfl dX12_hours_54 rfl rfl (Nat.le_of_ble_eq_true rfl) rfl ?_
      refine E_goto (M := mX12_hours) 45 (by decide) dX12_hours_57 ?_
      refine E_sub (M := mX12_hours) (lv' := [(0, .ref 149), (1, .int x1), (2, .int x2), (3, .int (x3 + 1))]) [1, 2, 3, 0] rfl ?_
      exact ih x1 x2 (x3 + 1) w4.1 w4.2 _ h
def f_X12_hours_22 (x1 : Int32) (y1 : Bool) (I : MI) (L : ML) : Option (Int32 × MI × ML) := Option.bind (f_X12_throwsIf y1 1 I L) fun w1 => if w1.1 = true then (some (0, w1.2.1, w1.2.2)) else (Option.bind (f_X12_spreads w1.2.1 w1.2.2) fun w3 => Option.bind (ldI w3.1 150 2143 12) fun v4 => f_X12_hours_45 FU x1 v4 0 w3.1 w3.2)
set_option maxRecDepth 100000 in
theorem S_X12_hours_22 {g : Gx} (x1 : Int32) (y1 : Bool) (I : MI) (L : ML) (res : Int32 × MI × ML) (h : f_X12_hours_22 x1 y1 I L = some res) : E g 14 0 mX12_hours 22 [(0, .ref 149), (1, .int x1)] [.int (bI y1), .ref 149] (I, L) (.inl (some (.int res.1))) (res.2.1, res.2.2) := by
  unfold f_X12_hours_22 at h
  refine E_iconst (M := mX12_hours) (v := 1) 23 rfl dX12_hours_22 (by decide) ?_
  replace h := Option.bind_eq_some_iff.mp h
  obtain ⟨w1, hw1, h⟩ := h
  refine E_cV1 (M := mX12_hours) (As := [.int (bI y1), .int 1]) 26 rfl dX12_hours_23 shc_149 ck_X12_245 cv_X12_throwsIf rfl (by decide) (Nat.le_of_ble_eq_true rfl) (C_X12_throwsIf (g := g) hw1) rfl ?_
  refine E_if_eqB (M := mX12_hours) 31 29 (by decide) rfl dX12_hours_26 (fun c2 => ?_) (fun c2 => ?_)
  · rw [if_neg (by rw [c2]; decide)] at h
    refine E_aload_n (M := mX12_hours) 32 rfl dX12_hours_31 rfl 0 rfl ?_
    replace h := Option.bind_eq_some_iff.mp h
    obtain ⟨w3, hw3, h⟩ := h
    refine E_cV0 (M := mX12_hours) (As := []) 35 rfl dX12_hours_32 shc_149 ck_X12_298 cv_X12_spreads rfl (by decide) (Nat.le_of_ble_eq_true rfl) (C_X12_spreads (g := g) hw3) rfl ?_
    refine E_aload_n (M := mX12_hours) 36 rfl dX12_hours_35 rfl 0 rfl ?_
    refine E_gR (M := mX12_hours) 150 39 rfl dX12_hours_36 shc_149 fl_X12_13 rfl (by decide) (by decide) ?_
    refine E_bipush (M := mX12_hours) (v := 12) 41 rfl dX12_hours_39 (by decide) ?_
    replace h := Option.bind_eq_some_iff.mp h
    obtain ⟨v4, hv4, h⟩ := h
    refine E_ldI (M := mX12_hours) 42 rfl dX12_hours_41 shc_150 hv4 ?_
    refine E_istore_n (M := mX12_hours) (lv' := [(2, .int v4), (0, .ref 149), (1, .int x1)]) 43 rfl dX12_hours_42 rfl (Nat.le_of_ble_eq_true rfl) rfl ?_
    refine E_iconst (M := mX12_hours) (v := 0) 44 rfl dX12_hours_43 (by decide) ?_
    refine E_istore_n (M := mX12_hours) (lv' := [(3, .int 0), (2, .int v4), (0, .ref 149), (1, .int x1)]) 45 rfl dX12_hours_44 rfl (Nat.le_of_ble_eq_true rfl) rfl ?_
    refine E_sub (M := mX12_hours) (lv' := [(0, .ref 149), (1, .int x1), (2, .int v4), (3, .int 0)]) [2, 3, 1, 0] rfl ?_
    exact S_X12_hours_45 FU x1 v4 0 w3.1 w3.2 _ h
  · rw [if_pos c2] at h
    refine E_iconst (M := mX12_hours) (v := 0) 30 rfl dX12_hours_29 (by decide) ?_
    cases h
    exact E_iret (M := mX12_hours) rfl dX12_hours_30
def f_X12_hours (x1 : Int32) (I : MI) (L : ML) : Option (Int32 × MI × ML) := Option.bind (pfI I 149 0 0) fun I1 => Option.bind (f_X12_in x1 1 240 I1 L) fun v2 => if v2 = true then (f_X12_hours_22 x1 false I1 L) else (f_X12_hours_22 x1 true I1 L)
set_option maxRecDepth 100000 in
theorem S_X12_hours {g : Gx} (x1 : Int32) (I : MI) (L : ML) (res : Int32 × MI × ML) (h : f_X12_hours x1 I L = some res) : E g 14 0 mX12_hours 0 [(0, .ref 149), (1, .int x1)] [] (I, L) (.inl (some (.int res.1))) (res.2.1, res.2.2) := by
  unfold f_X12_hours at h
  refine E_aload_n (M := mX12_hours) 1 rfl dX12_hours_0 rfl 0 rfl ?_
  refine E_iconst (M := mX12_hours) (v := 0) 2 rfl dX12_hours_1 (by decide) ?_
  replace h := Option.bind_eq_some_iff.mp h
  obtain ⟨I1, hI1, h⟩ := h
  refine E_pfI (M := mX12_hours) 5 rfl dX12_hours_2 shc_149 fl_X12_3 rfl hI1 ?_
  refine E_aload_n (M := mX12_hours) 6 rfl dX12_hours_5 rfl 0 rfl ?_
  refine E_iload_n (M := mX12_hours) 7 rfl dX12_hours_6 rfl 1 rfl ?_
  refine E_iconst (M := mX12_hours) (v := 1) 8 rfl dX12_hours_7 (by decide) ?_
  refine E_sipush (M := mX12_hours) (v := 240) 11 rfl dX12_hours_8 (by decide) ?_
  replace h := Option.bind_eq_some_iff.mp h
  obtain ⟨v2, hv2, h⟩ := h
  refine E_cS1 (M := mX12_hours) (As := [.int x1, .int 1, .int 240]) 14 rfl dX12_hours_11 ck_X12_60 ss_X12_in rfl (by decide) (Nat.le_of_ble_eq_true rfl) (C_X12_in (g := g) hv2) rfl ?_
  refine E_if_neB (M := mX12_hours) 21 17 (by decide) rfl dX12_hours_14 (fun c3 => ?_) (fun c3 => ?_)
  · rw [if_pos c3] at h
    refine E_iconst (M := mX12_hours) (v := 0) 22 rfl dX12_hours_21 (by decide) ?_
    refine E_sub (M := mX12_hours) (lv' := [(0, .ref 149), (1, .int x1)]) [0, 1] rfl ?_
    exact S_X12_hours_22 x1 false I1 L _ h
  · rw [if_neg (by rw [c3]; decide)] at h
    refine E_iconst (M := mX12_hours) (v := 1) 18 rfl dX12_hours_17 (by decide) ?_
    refine E_goto (M := mX12_hours) 22 (by decide) dX12_hours_18 ?_
    refine E_sub (M := mX12_hours) (lv' := [(0, .ref 149), (1, .int x1)]) [0, 1] rfl ?_
    exact S_X12_hours_22 x1 true I1 L _ h
theorem C_X12_hours {g : Gx} {x1 : Int32} {I : MI} {L : ML} {res : Int32 × MI × ML} (h : f_X12_hours x1 I L = some res) : Ent g 14 0 mX12_hours [.ref 149, .int x1] (I, L) (.inl (some (.int res.1))) (res.2.1, res.2.2) := Ent_of (by decide +kernel) (Nat.le_of_ble_eq_true rfl) (S_X12_hours x1 I L _ h)
def f_X12_go_27 (x1 : Int32) (x2 : Int32) (y1 : Bool) (I : MI) (L : ML) : Option (Int32 × MI × ML) := Option.bind (f_X12_throwsIf y1 1 I L) fun w1 => if w1.1 = true then (some (0, w1.2.1, w1.2.2)) else (Option.bind (f_X12_remembers w1.2.1 w1.2.2) fun w3 => Option.bind (f_X12_ofHeir x1 0 w3.1 w3.2) fun v4 => Option.bind (f_X12_setsHeir x1 0 x2 w3.1 w3.2) fun w5 => some (v4, w5.1, w5.2))
set_option maxRecDepth 100000 in
theorem S_X12_go_27 {g : Gx} (x1 : Int32) (x2 : Int32) (y1 : Bool) (I : MI) (L : ML) (res : Int32 × MI × ML) (h : f_X12_go_27 x1 x2 y1 I L = some res) : E g 3 0 mX12_go 27 [(0, .ref 149), (1, .int x1), (2, .int x2)] [.int (bI y1), .ref 149] (I, L) (.inl (some (.int res.1))) (res.2.1, res.2.2) := by
  unfold f_X12_go_27 at h
  refine E_iconst (M := mX12_go) (v := 1) 28 rfl dX12_go_27 (by decide) ?_
  replace h := Option.bind_eq_some_iff.mp h
  obtain ⟨w1, hw1, h⟩ := h
  refine E_cV1 (M := mX12_go) (As := [.int (bI y1), .int 1]) 31 rfl dX12_go_28 shc_149 ck_X12_245 cv_X12_throwsIf rfl (by decide) (Nat.le_of_ble_eq_true rfl) (C_X12_throwsIf (g := g) hw1) rfl ?_
  refine E_if_eqB (M := mX12_go) 36 34 (by decide) rfl dX12_go_31 (fun c2 => ?_) (fun c2 => ?_)
  · rw [if_neg (by rw [c2]; decide)] at h
    refine E_aload_n (M := mX12_go) 37 rfl dX12_go_36 rfl 0 rfl ?_
    replace h := Option.bind_eq_some_iff.mp h
    obtain ⟨w3, hw3, h⟩ := h
    refine E_cV0 (M := mX12_go) (As := []) 40 rfl dX12_go_37 shc_149 ck_X12_329 cv_X12_remembers rfl (by decide) (Nat.le_of_ble_eq_true rfl) (C_X12_remembers (g := g) hw3) rfl ?_
    refine E_aload_n (M := mX12_go) 41 rfl dX12_go_40 rfl 0 rfl ?_
    refine E_iload_n (M := mX12_go) 42 rfl dX12_go_41 rfl 1 rfl ?_
    refine E_iconst (M := mX12_go) (v := 0) 43 rfl dX12_go_42 (by decide) ?_
    replace h := Option.bind_eq_some_iff.mp h
    obtain ⟨v4, hv4, h⟩ := h
    refine E_cV1 (M := mX12_go) (As := [.int x1, .int 0]) 46 rfl dX12_go_43 shc_149 ck_X12_266 cv_X12_ofHeir rfl (by decide) (Nat.le_of_ble_eq_true rfl) (C_X12_ofHeir (g := g) hv4) rfl ?_
    refine E_istore_n (M := mX12_go) (lv' := [(3, .int v4), (0, .ref 149), (1, .int x1), (2, .int x2)]) 47 rfl dX12_go_46 rfl (Nat.le_of_ble_eq_true rfl) rfl ?_
    refine E_aload_n (M := mX12_go) 48 rfl dX12_go_47 rfl 1 rfl ?_
    refine E_iload_n (M := mX12_go) 49 rfl dX12_go_48 rfl 2 rfl ?_
    refine E_iconst (M := mX12_go) (v := 0) 50 rfl dX12_go_49 (by decide) ?_
    refine E_iload_n (M := mX12_go) 51 rfl dX12_go_50 rfl 3 rfl ?_
    replace h := Option.bind_eq_some_iff.mp h
    obtain ⟨w5, hw5, h⟩ := h
    refine E_cV0 (M := mX12_go) (As := [.int x1, .int 0, .int x2]) 54 rfl dX12_go_51 shc_149 ck_X12_122 cv_X12_setsHeir rfl (by decide) (Nat.le_of_ble_eq_true rfl) (C_X12_setsHeir (g := g) hw5) rfl ?_
    refine E_iload_n (M := mX12_go) 55 rfl dX12_go_54 rfl 0 rfl ?_
    cases h
    exact E_iret (M := mX12_go) rfl dX12_go_55
  · rw [if_pos c2] at h
    refine E_iconst (M := mX12_go) (v := 0) 35 rfl dX12_go_34 (by decide) ?_
    cases h
    exact E_iret (M := mX12_go) rfl dX12_go_35
def f_X12_go_22 (x1 : Int32) (x2 : Int32) (I : MI) (L : ML) : Option (Int32 × MI × ML) := f_X12_go_27 x1 x2 true I L
set_option maxRecDepth 100000 in
theorem S_X12_go_22 {g : Gx} (x1 : Int32) (x2 : Int32) (I : MI) (L : ML) (res : Int32 × MI × ML) (h : f_X12_go_22 x1 x2 I L = some res) : E g 3 0 mX12_go 22 [(0, .ref 149), (1, .int x1), (2, .int x2)] [.ref 149] (I, L) (.inl (some (.int res.1))) (res.2.1, res.2.2) := by
  unfold f_X12_go_22 at h
  refine E_iconst (M := mX12_go) (v := 1) 23 rfl dX12_go_22 (by decide) ?_
  refine E_goto (M := mX12_go) 27 (by decide) dX12_go_23 ?_
  refine E_sub (M := mX12_go) (lv' := [(0, .ref 149), (1, .int x1), (2, .int x2)]) [0, 1, 2] rfl ?_
  exact S_X12_go_27 x1 x2 true I L _ h
def f_X12_go (x1 : Int32) (x2 : Int32) (I : MI) (L : ML) : Option (Int32 × MI × ML) := Option.bind (pfI I 149 0 0) fun I1 => Option.bind (f_X12_noHeir x1 I1 L) fun v2 => if v2 = true then (f_X12_go_22 x1 x2 I1 L) else (Option.bind (f_X12_noRoom x2 I1 L) fun v4 => if v4 = true then (f_X12_go_22 x1 x2 I1 L) else (f_X12_go_27 x1 x2 false I1 L))
set_option maxRecDepth 100000 in
theorem S_X12_go {g : Gx} (x1 : Int32) (x2 : Int32) (I : MI) (L : ML) (res : Int32 × MI × ML) (h : f_X12_go x1 x2 I L = some res) : E g 3 0 mX12_go 0 [(0, .ref 149), (1, .int x1), (2, .int x2)] [] (I, L) (.inl (some (.int res.1))) (res.2.1, res.2.2) := by
  unfold f_X12_go at h
  refine E_aload_n (M := mX12_go) 1 rfl dX12_go_0 rfl 0 rfl ?_
  refine E_iconst (M := mX12_go) (v := 0) 2 rfl dX12_go_1 (by decide) ?_
  replace h := Option.bind_eq_some_iff.mp h
  obtain ⟨I1, hI1, h⟩ := h
  refine E_pfI (M := mX12_go) 5 rfl dX12_go_2 shc_149 fl_X12_3 rfl hI1 ?_
  refine E_aload_n (M := mX12_go) 6 rfl dX12_go_5 rfl 0 rfl ?_
  refine E_aload_n (M := mX12_go) 7 rfl dX12_go_6 rfl 0 rfl ?_
  refine E_iload_n (M := mX12_go) 8 rfl dX12_go_7 rfl 1 rfl ?_
  replace h := Option.bind_eq_some_iff.mp h
  obtain ⟨v2, hv2, h⟩ := h
  refine E_cV1 (M := mX12_go) (As := [.int x1]) 11 rfl dX12_go_8 shc_149 ck_X12_301 cv_X12_noHeir rfl (by decide) (Nat.le_of_ble_eq_true rfl) (C_X12_noHeir (g := g) hv2) rfl ?_
  refine E_if_neB (M := mX12_go) 22 14 (by decide) rfl dX12_go_11 (fun c3 => ?_) (fun c3 => ?_)
  · rw [if_pos c3] at h
    refine E_sub (M := mX12_go) (lv' := [(0, .ref 149), (1, .int x1), (2, .int x2)]) [0, 1, 2] rfl ?_
    exact S_X12_go_22 x1 x2 I1 L _ h
  · rw [if_neg (by rw [c3]; decide)] at h
    refine E_aload_n (M := mX12_go) 15 rfl dX12_go_14 rfl 0 rfl ?_
    refine E_iload_n (M := mX12_go) 16 rfl dX12_go_15 rfl 2 rfl ?_
    replace h := Option.bind_eq_some_iff.mp h
    obtain ⟨v4, hv4, h⟩ := h
    refine E_cV1 (M := mX12_go) (As := [.int x2]) 19 rfl dX12_go_16 shc_149 ck_X12_292 cv_X12_noRoom rfl (by decide) (Nat.le_of_ble_eq_true rfl) (C_X12_noRoom (g := g) hv4) rfl ?_
    refine E_if_eqB (M := mX12_go) 26 22 (by decide) rfl dX12_go_19 (fun c5 => ?_) (fun c5 => ?_)
    · rw [if_neg (by rw [c5]; decide)] at h
      refine E_iconst (M := mX12_go) (v := 0) 27 rfl dX12_go_26 (by decide) ?_
      refine E_sub (M := mX12_go) (lv' := [(0, .ref 149), (1, .int x1), (2, .int x2)]) [0, 1, 2] rfl ?_
      exact S_X12_go_27 x1 x2 false I1 L _ h
    · rw [if_pos c5] at h
      refine E_sub (M := mX12_go) (lv' := [(0, .ref 149), (1, .int x1), (2, .int x2)]) [0, 1, 2] rfl ?_
      exact S_X12_go_22 x1 x2 I1 L _ h
theorem C_X12_go {g : Gx} {x1 : Int32} {x2 : Int32} {I : MI} {L : ML} {res : Int32 × MI × ML} (h : f_X12_go x1 x2 I L = some res) : Ent g 3 0 mX12_go [.ref 149, .int x1, .int x2] (I, L) (.inl (some (.int res.1))) (res.2.1, res.2.2) := Ent_of (by decide +kernel) (Nat.le_of_ble_eq_true rfl) (S_X12_go x1 x2 I L _ h)
def f_X12_make_62 (x1 : Int32) (y0 : Bool) (I : MI) (L : ML) : Option (Bool × MI × ML) := Option.bind (f_X12_sets x1 9 1 I L) fun w1 => some (y0, w1.1, w1.2)
set_option maxRecDepth 100000 in
theorem S_X12_make_62 {g : Gx} (x1 : Int32) (y0 : Bool) (I : MI) (L : ML) (res : Bool × MI × ML) (h : f_X12_make_62 x1 y0 I L = some res) : E g 3 0 mX12_make 62 [(0, .ref 149), (1, .int x1)] [.int (bI y0)] (I, L) (.inl (some (.int (bI res.1)))) (res.2.1, res.2.2) := by
  unfold f_X12_make_62 at h
  refine E_istore_n (M := mX12_make) (lv' := [(2, .int (bI y0)), (0, .ref 149), (1, .int x1)]) 63 rfl dX12_make_62 rfl (Nat.le_of_ble_eq_true rfl) rfl ?_
  refine E_aload_n (M := mX12_make) 64 rfl dX12_make_63 rfl 1 rfl ?_
  refine E_iload_n (M := mX12_make) 65 rfl dX12_make_64 rfl 2 rfl ?_
  refine E_bipush (M := mX12_make) (v := 9) 67 rfl dX12_make_65 (by decide) ?_
  refine E_iconst (M := mX12_make) (v := 1) 68 rfl dX12_make_67 (by decide) ?_
  replace h := Option.bind_eq_some_iff.mp h
  obtain ⟨w1, hw1, h⟩ := h
  refine E_cV0 (M := mX12_make) (As := [.int x1, .int 9, .int 1]) 71 rfl dX12_make_68 shc_149 ck_X12_143 cv_X12_sets rfl (by decide) (Nat.le_of_ble_eq_true rfl) (C_X12_sets (g := g) hw1) rfl ?_
  refine E_iload_n (M := mX12_make) 72 rfl dX12_make_71 rfl 0 rfl ?_
  cases h
  exact E_zret (M := mX12_make) (x := y0) rfl dX12_make_72
def f_X12_make_41 (I : MI) (L : ML) : Option (Bool × MI × ML) := some (false, I, L)
set_option maxRecDepth 100000 in
theorem S_X12_make_41 {g : Gx} (I : MI) (L : ML) (res : Bool × MI × ML) (h : f_X12_make_41 I L = some res) : E g 3 0 mX12_make 41 [] [] (I, L) (.inl (some (.int (bI res.1)))) (res.2.1, res.2.2) := by
  unfold f_X12_make_41 at h
  refine E_iconst (M := mX12_make) (v := 0) 42 rfl dX12_make_41 (by decide) ?_
  cases h
  exact E_zret (M := mX12_make) (x := false) rfl dX12_make_42
def f_X12_make_34 (x1 : Int32) (y1 : Bool) (I : MI) (L : ML) : Option (Bool × MI × ML) := Option.bind (f_X12_throwsIf y1 2 I L) fun w1 => if w1.1 = true then (f_X12_make_41 w1.2.1 w1.2.2) else (Option.bind (f_X12_remembers w1.2.1 w1.2.2) fun w3 => Option.bind (f_X12_of x1 9 w3.1 w3.2) fun v4 => if v4 = 0 then (f_X12_make_62 x1 true w3.1 w3.2) else (f_X12_make_62 x1 false w3.1 w3.2))
set_option maxRecDepth 100000 in
theorem S_X12_make_34 {g : Gx} (x1 : Int32) (y1 : Bool) (I : MI) (L : ML) (res : Bool × MI × ML) (h : f_X12_make_34 x1 y1 I L = some res) : E g 3 0 mX12_make 34 [(0, .ref 149), (1, .int x1)] [.int (bI y1), .ref 149] (I, L) (.inl (some (.int (bI res.1)))) (res.2.1, res.2.2) := by
  unfold f_X12_make_34 at h
  refine E_iconst (M := mX12_make) (v := 2) 35 rfl dX12_make_34 (by decide) ?_
  replace h := Option.bind_eq_some_iff.mp h
  obtain ⟨w1, hw1, h⟩ := h
  refine E_cV1 (M := mX12_make) (As := [.int (bI y1), .int 2]) 38 rfl dX12_make_35 shc_149 ck_X12_245 cv_X12_throwsIf rfl (by decide) (Nat.le_of_ble_eq_true rfl) (C_X12_throwsIf (g := g) hw1) rfl ?_
  refine E_if_eqB (M := mX12_make) 43 41 (by decide) rfl dX12_make_38 (fun c2 => ?_) (fun c2 => ?_)
  · rw [if_neg (by rw [c2]; decide)] at h
    refine E_aload_n (M := mX12_make) 44 rfl dX12_make_43 rfl 0 rfl ?_
    replace h := Option.bind_eq_some_iff.mp h
    obtain ⟨w3, hw3, h⟩ := h
    refine E_cV0 (M := mX12_make) (As := []) 47 rfl dX12_make_44 shc_149 ck_X12_329 cv_X12_remembers rfl (by decide) (Nat.le_of_ble_eq_true rfl) (C_X12_remembers (g := g) hw3) rfl ?_
    refine E_aload_n (M := mX12_make) 48 rfl dX12_make_47 rfl 0 rfl ?_
    refine E_iload_n (M := mX12_make) 49 rfl dX12_make_48 rfl 1 rfl ?_
    refine E_bipush (M := mX12_make) (v := 9) 51 rfl dX12_make_49 (by decide) ?_
    replace h := Option.bind_eq_some_iff.mp h
    obtain ⟨v4, hv4, h⟩ := h
    refine E_cV1 (M := mX12_make) (As := [.int x1, .int 9]) 54 rfl dX12_make_51 shc_149 ck_X12_260 cv_X12_of rfl (by decide) (Nat.le_of_ble_eq_true rfl) (C_X12_of (g := g) hv4) rfl ?_
    refine E_if_ne (M := mX12_make) 61 57 (by decide) rfl dX12_make_54 (fun c5 => ?_) (fun c5 => ?_)
    · rw [if_neg c5] at h
      refine E_iconst (M := mX12_make) (v := 0) 62 rfl dX12_make_61 (by decide) ?_
      refine E_sub (M := mX12_make) (lv' := [(0, .ref 149), (1, .int x1)]) [0, 1] rfl ?_
      exact S_X12_make_62 x1 false w3.1 w3.2 _ h
    · rw [if_pos c5] at h
      refine E_iconst (M := mX12_make) (v := 1) 58 rfl dX12_make_57 (by decide) ?_
      refine E_goto (M := mX12_make) 62 (by decide) dX12_make_58 ?_
      refine E_sub (M := mX12_make) (lv' := [(0, .ref 149), (1, .int x1)]) [0, 1] rfl ?_
      exact S_X12_make_62 x1 true w3.1 w3.2 _ h
  · rw [if_pos c2] at h
    refine E_sub (M := mX12_make) (lv' := []) [] rfl ?_
    exact S_X12_make_41 w1.2.1 w1.2.2 _ h
def f_X12_make (x1 : Int32) (I : MI) (L : ML) : Option (Bool × MI × ML) := Option.bind (pfI I 149 0 0) fun I1 => Option.bind (f_X12_noNoise x1 I1 L) fun v2 => Option.bind (f_X12_throwsIf v2 1 I1 L) fun w3 => if w3.1 = true then (f_X12_make_41 w3.2.1 w3.2.2) else (Option.bind (f_X12_of x1 0 w3.2.1 w3.2.2) fun v5 => if v5 = 3 then (f_X12_make_34 x1 false w3.2.1 w3.2.2) else (f_X12_make_34 x1 true w3.2.1 w3.2.2))
set_option maxRecDepth 100000 in
theorem S_X12_make {g : Gx} (x1 : Int32) (I : MI) (L : ML) (res : Bool × MI × ML) (h : f_X12_make x1 I L = some res) : E g 3 0 mX12_make 0 [(0, .ref 149), (1, .int x1)] [] (I, L) (.inl (some (.int (bI res.1)))) (res.2.1, res.2.2) := by
  unfold f_X12_make at h
  refine E_aload_n (M := mX12_make) 1 rfl dX12_make_0 rfl 0 rfl ?_
  refine E_iconst (M := mX12_make) (v := 0) 2 rfl dX12_make_1 (by decide) ?_
  replace h := Option.bind_eq_some_iff.mp h
  obtain ⟨I1, hI1, h⟩ := h
  refine E_pfI (M := mX12_make) 5 rfl dX12_make_2 shc_149 fl_X12_3 rfl hI1 ?_
  refine E_aload_n (M := mX12_make) 6 rfl dX12_make_5 rfl 0 rfl ?_
  refine E_aload_n (M := mX12_make) 7 rfl dX12_make_6 rfl 0 rfl ?_
  refine E_iload_n (M := mX12_make) 8 rfl dX12_make_7 rfl 1 rfl ?_
  replace h := Option.bind_eq_some_iff.mp h
  obtain ⟨v2, hv2, h⟩ := h
  refine E_cV1 (M := mX12_make) (As := [.int x1]) 11 rfl dX12_make_8 shc_149 ck_X12_304 cv_X12_noNoise rfl (by decide) (Nat.le_of_ble_eq_true rfl) (C_X12_noNoise (g := g) hv2) rfl ?_
  refine E_iconst (M := mX12_make) (v := 1) 12 rfl dX12_make_11 (by decide) ?_
  replace h := Option.bind_eq_some_iff.mp h
  obtain ⟨w3, hw3, h⟩ := h
  refine E_cV1 (M := mX12_make) (As := [.int (bI v2), .int 1]) 15 rfl dX12_make_12 shc_149 ck_X12_245 cv_X12_throwsIf rfl (by decide) (Nat.le_of_ble_eq_true rfl) (C_X12_throwsIf (g := g) hw3) rfl ?_
  refine E_if_neB (M := mX12_make) 41 18 (by decide) rfl dX12_make_15 (fun c4 => ?_) (fun c4 => ?_)
  · rw [if_pos c4] at h
    refine E_sub (M := mX12_make) (lv' := []) [] rfl ?_
    exact S_X12_make_41 w3.2.1 w3.2.2 _ h
  · rw [if_neg (by rw [c4]; decide)] at h
    refine E_aload_n (M := mX12_make) 19 rfl dX12_make_18 rfl 0 rfl ?_
    refine E_aload_n (M := mX12_make) 20 rfl dX12_make_19 rfl 0 rfl ?_
    refine E_iload_n (M := mX12_make) 21 rfl dX12_make_20 rfl 1 rfl ?_
    refine E_iconst (M := mX12_make) (v := 0) 22 rfl dX12_make_21 (by decide) ?_
    replace h := Option.bind_eq_some_iff.mp h
    obtain ⟨v5, hv5, h⟩ := h
    refine E_cV1 (M := mX12_make) (As := [.int x1, .int 0]) 25 rfl dX12_make_22 shc_149 ck_X12_260 cv_X12_of rfl (by decide) (Nat.le_of_ble_eq_true rfl) (C_X12_of (g := g) hv5) rfl ?_
    refine E_iconst (M := mX12_make) (v := 3) 26 rfl dX12_make_25 (by decide) ?_
    refine E_icmp_eq (M := mX12_make) 33 29 (by decide) rfl dX12_make_26 (fun c6 => ?_) (fun c6 => ?_)
    · rw [if_pos c6] at h
      refine E_iconst (M := mX12_make) (v := 0) 34 rfl dX12_make_33 (by decide) ?_
      refine E_sub (M := mX12_make) (lv' := [(0, .ref 149), (1, .int x1)]) [0, 1] rfl ?_
      exact S_X12_make_34 x1 false w3.2.1 w3.2.2 _ h
    · rw [if_neg c6] at h
      refine E_iconst (M := mX12_make) (v := 1) 30 rfl dX12_make_29 (by decide) ?_
      refine E_goto (M := mX12_make) 34 (by decide) dX12_make_30 ?_
      refine E_sub (M := mX12_make) (lv' := [(0, .ref 149), (1, .int x1)]) [0, 1] rfl ?_
      exact S_X12_make_34 x1 true w3.2.1 w3.2.2 _ h
theorem C_X12_make {g : Gx} {x1 : Int32} {I : MI} {L : ML} {res : Bool × MI × ML} (h : f_X12_make x1 I L = some res) : Ent g 3 0 mX12_make [.ref 149, .int x1] (I, L) (.inl (some (.int (bI res.1)))) (res.2.1, res.2.2) := Ent_of (by decide +kernel) (Nat.le_of_ble_eq_true rfl) (S_X12_make x1 I L _ h)
def f_X12_oil_41 (I : MI) (L : ML) : Option (Int32 × MI × ML) := some (0, I, L)
set_option maxRecDepth 100000 in
theorem S_X12_oil_41 {g : Gx} (I : MI) (L : ML) (res : Int32 × MI × ML) (h : f_X12_oil_41 I L = some res) : E g 5 0 mX12_oil 41 [] [] (I, L) (.inl (some (.int res.1))) (res.2.1, res.2.2) := by
  unfold f_X12_oil_41 at h
  refine E_iconst (M := mX12_oil) (v := 0) 42 rfl dX12_oil_41 (by decide) ?_
  cases h
  exact E_iret (M := mX12_oil) rfl dX12_oil_42
def f_X12_oil_34 (x1 : Int32) (x2 : Int32) (y1 : Bool) (I : MI) (L : ML) : Option (Int32 × MI × ML) := Option.bind (f_X12_throwsIf y1 2 I L) fun w1 => if w1.1 = true then (f_X12_oil_41 w1.2.1 w1.2.2) else (Option.bind (f_X12_remembers w1.2.1 w1.2.2) fun w3 => Option.bind (f_X12_of x1 5 w3.1 w3.2) fun v4 => Option.bind (f_X12_sets x1 5 (if (v4 + x2) < 99 then (v4 + x2) else 99) w3.1 w3.2) fun w5 => Option.bind (f_X12_of x1 5 w5.1 w5.2) fun v6 => some (v6, w5.1, w5.2))
set_option maxRecDepth 100000 in
theorem S_X12_oil_34 {g : Gx} (x1 : Int32) (x2 : Int32) (y1 : Bool) (I : MI) (L : ML) (res : Int32 × MI × ML) (h : f_X12_oil_34 x1 x2 y1 I L = some res) : E g 5 0 mX12_oil 34 [(0, .ref 149), (1, .int x1), (2, .int x2)] [.int (bI y1), .ref 149] (I, L) (.inl (some (.int res.1))) (res.2.1, res.2.2) := by
  unfold f_X12_oil_34 at h
  refine E_iconst (M := mX12_oil) (v := 2) 35 rfl dX12_oil_34 (by decide) ?_
  replace h := Option.bind_eq_some_iff.mp h
  obtain ⟨w1, hw1, h⟩ := h
  refine E_cV1 (M := mX12_oil) (As := [.int (bI y1), .int 2]) 38 rfl dX12_oil_35 shc_149 ck_X12_245 cv_X12_throwsIf rfl (by decide) (Nat.le_of_ble_eq_true rfl) (C_X12_throwsIf (g := g) hw1) rfl ?_
  refine E_if_eqB (M := mX12_oil) 43 41 (by decide) rfl dX12_oil_38 (fun c2 => ?_) (fun c2 => ?_)
  · rw [if_neg (by rw [c2]; decide)] at h
    refine E_aload_n (M := mX12_oil) 44 rfl dX12_oil_43 rfl 0 rfl ?_
    replace h := Option.bind_eq_some_iff.mp h
    obtain ⟨w3, hw3, h⟩ := h
    refine E_cV0 (M := mX12_oil) (As := []) 47 rfl dX12_oil_44 shc_149 ck_X12_329 cv_X12_remembers rfl (by decide) (Nat.le_of_ble_eq_true rfl) (C_X12_remembers (g := g) hw3) rfl ?_
    refine E_aload_n (M := mX12_oil) 48 rfl dX12_oil_47 rfl 0 rfl ?_
    refine E_iload_n (M := mX12_oil) 49 rfl dX12_oil_48 rfl 1 rfl ?_
    refine E_iconst (M := mX12_oil) (v := 5) 50 rfl dX12_oil_49 (by decide) ?_
    refine E_bipush (M := mX12_oil) (v := 99) 52 rfl dX12_oil_50 (by decide) ?_
    refine E_aload_n (M := mX12_oil) 53 rfl dX12_oil_52 rfl 0 rfl ?_
    refine E_iload_n (M := mX12_oil) 54 rfl dX12_oil_53 rfl 1 rfl ?_
    refine E_iconst (M := mX12_oil) (v := 5) 55 rfl dX12_oil_54 (by decide) ?_
    replace h := Option.bind_eq_some_iff.mp h
    obtain ⟨v4, hv4, h⟩ := h
    refine E_cV1 (M := mX12_oil) (As := [.int x1, .int 5]) 58 rfl dX12_oil_55 shc_149 ck_X12_260 cv_X12_of rfl (by decide) (Nat.le_of_ble_eq_true rfl) (C_X12_of (g := g) hv4) rfl ?_
    refine E_iload_n (M := mX12_oil) 59 rfl dX12_oil_58 rfl 2 rfl ?_
    refine E_iadd (M := mX12_oil) 60 rfl dX12_oil_59 ?_
    refine E_min (M := mX12_oil) 63 rfl dX12_oil_60 jm_X12_255 (by decide) (Nat.le_of_ble_eq_true rfl) ?_
    replace h := Option.bind_eq_some_iff.mp h
    obtain ⟨w5, hw5, h⟩ := h
    refine E_cV0 (M := mX12_oil) (As := [.int x1, .int 5, .int (if (v4 + x2) < 99 then (v4 + x2) else 99)]) 66 rfl dX12_oil_63 shc_149 ck_X12_143 cv_X12_sets rfl (by decide) (Nat.le_of_ble_eq_true rfl) (C_X12_sets (g := g) hw5) rfl ?_
    refine E_aload_n (M := mX12_oil) 67 rfl dX12_oil_66 rfl 0 rfl ?_
    refine E_iload_n (M := mX12_oil) 68 rfl dX12_oil_67 rfl 1 rfl ?_
    refine E_iconst (M := mX12_oil) (v := 5) 69 rfl dX12_oil_68 (by decide) ?_
    replace h := Option.bind_eq_some_iff.mp h
    obtain ⟨v6, hv6, h⟩ := h
    refine E_cV1 (M := mX12_oil) (As := [.int x1, .int 5]) 72 rfl dX12_oil_69 shc_149 ck_X12_260 cv_X12_of rfl (by decide) (Nat.le_of_ble_eq_true rfl) (C_X12_of (g := g) hv6) rfl ?_
    cases h
    exact E_iret (M := mX12_oil) rfl dX12_oil_72
  · rw [if_pos c2] at h
    refine E_sub (M := mX12_oil) (lv' := []) [] rfl ?_
    exact S_X12_oil_41 w1.2.1 w1.2.2 _ h
def f_X12_oil (x1 : Int32) (x2 : Int32) (I : MI) (L : ML) : Option (Int32 × MI × ML) := Option.bind (pfI I 149 0 0) fun I1 => Option.bind (f_X12_noNoise x1 I1 L) fun v2 => Option.bind (f_X12_throwsIf v2 1 I1 L) fun w3 => if w3.1 = true then (f_X12_oil_41 w3.2.1 w3.2.2) else (Option.bind (f_X12_in x2 1 99 w3.2.1 w3.2.2) fun v5 => if v5 = true then (f_X12_oil_34 x1 x2 false w3.2.1 w3.2.2) else (f_X12_oil_34 x1 x2 true w3.2.1 w3.2.2))
set_option maxRecDepth 100000 in
theorem S_X12_oil {g : Gx} (x1 : Int32) (x2 : Int32) (I : MI) (L : ML) (res : Int32 × MI × ML) (h : f_X12_oil x1 x2 I L = some res) : E g 5 0 mX12_oil 0 [(0, .ref 149), (1, .int x1), (2, .int x2)] [] (I, L) (.inl (some (.int res.1))) (res.2.1, res.2.2) := by
  unfold f_X12_oil at h
  refine E_aload_n (M := mX12_oil) 1 rfl dX12_oil_0 rfl 0 rfl ?_
  refine E_iconst (M := mX12_oil) (v := 0) 2 rfl dX12_oil_1 (by decide) ?_
  replace h := Option.bind_eq_some_iff.mp h
  obtain ⟨I1, hI1, h⟩ := h
  refine E_pfI (M := mX12_oil) 5 rfl dX12_oil_2 shc_149 fl_X12_3 rfl hI1 ?_
  refine E_aload_n (M := mX12_oil) 6 rfl dX12_oil_5 rfl 0 rfl ?_
  refine E_aload_n (M := mX12_oil) 7 rfl dX12_oil_6 rfl 0 rfl ?_
  refine E_iload_n (M := mX12_oil) 8 rfl dX12_oil_7 rfl 1 rfl ?_
  replace h := Option.bind_eq_some_iff.mp h
  obtain ⟨v2, hv2, h⟩ := h
  refine E_cV1 (M := mX12_oil) (As := [.int x1]) 11 rfl dX12_oil_8 shc_149 ck_X12_304 cv_X12_noNoise rfl (by decide) (Nat.le_of_ble_eq_true rfl) (C_X12_noNoise (g := g) hv2) rfl ?_
  refine E_iconst (M := mX12_oil) (v := 1) 12 rfl dX12_oil_11 (by decide) ?_
  replace h := Option.bind_eq_some_iff.mp h
  obtain ⟨w3, hw3, h⟩ := h
  refine E_cV1 (M := mX12_oil) (As := [.int (bI v2), .int 1]) 15 rfl dX12_oil_12 shc_149 ck_X12_245 cv_X12_throwsIf rfl (by decide) (Nat.le_of_ble_eq_true rfl) (C_X12_throwsIf (g := g) hw3) rfl ?_
  refine E_if_neB (M := mX12_oil) 41 18 (by decide) rfl dX12_oil_15 (fun c4 => ?_) (fun c4 => ?_)
  · rw [if_pos c4] at h
    refine E_sub (M := mX12_oil) (lv' := []) [] rfl ?_
    exact S_X12_oil_41 w3.2.1 w3.2.2 _ h
  · rw [if_neg (by rw [c4]; decide)] at h
    refine E_aload_n (M := mX12_oil) 19 rfl dX12_oil_18 rfl 0 rfl ?_
    refine E_iload_n (M := mX12_oil) 20 rfl dX12_oil_19 rfl 2 rfl ?_
    refine E_iconst (M := mX12_oil) (v := 1) 21 rfl dX12_oil_20 (by decide) ?_
    refine E_bipush (M := mX12_oil) (v := 99) 23 rfl dX12_oil_21 (by decide) ?_
    replace h := Option.bind_eq_some_iff.mp h
    obtain ⟨v5, hv5, h⟩ := h
    refine E_cS1 (M := mX12_oil) (As := [.int x2, .int 1, .int 99]) 26 rfl dX12_oil_23 ck_X12_60 ss_X12_in rfl (by decide) (Nat.le_of_ble_eq_true rfl) (C_X12_in (g := g) hv5) rfl ?_
    refine E_if_neB (M := mX12_oil) 33 29 (by decide) rfl dX12_oil_26 (fun c6 => ?_) (fun c6 => ?_)
    · rw [if_pos c6] at h
      refine E_iconst (M := mX12_oil) (v := 0) 34 rfl dX12_oil_33 (by decide) ?_
      refine E_sub (M := mX12_oil) (lv' := [(0, .ref 149), (1, .int x1), (2, .int x2)]) [0, 1, 2] rfl ?_
      exact S_X12_oil_34 x1 x2 false w3.2.1 w3.2.2 _ h
    · rw [if_neg (by rw [c6]; decide)] at h
      refine E_iconst (M := mX12_oil) (v := 1) 30 rfl dX12_oil_29 (by decide) ?_
      refine E_goto (M := mX12_oil) 34 (by decide) dX12_oil_30 ?_
      refine E_sub (M := mX12_oil) (lv' := [(0, .ref 149), (1, .int x1), (2, .int x2)]) [0, 1, 2] rfl ?_
      exact S_X12_oil_34 x1 x2 true w3.2.1 w3.2.2 _ h
theorem C_X12_oil {g : Gx} {x1 : Int32} {x2 : Int32} {I : MI} {L : ML} {res : Int32 × MI × ML} (h : f_X12_oil x1 x2 I L = some res) : Ent g 5 0 mX12_oil [.ref 149, .int x1, .int x2] (I, L) (.inl (some (.int res.1))) (res.2.1, res.2.2) := Ent_of (by decide +kernel) (Nat.le_of_ble_eq_true rfl) (S_X12_oil x1 x2 I L _ h)
def f_X12_carpet_41 (I : MI) (L : ML) : Option (Int32 × MI × ML) := some (0, I, L)
set_option maxRecDepth 100000 in
theorem S_X12_carpet_41 {g : Gx} (I : MI) (L : ML) (res : Int32 × MI × ML) (h : f_X12_carpet_41 I L = some res) : E g 3 0 mX12_carpet 41 [] [] (I, L) (.inl (some (.int res.1))) (res.2.1, res.2.2) := by
  unfold f_X12_carpet_41 at h
  refine E_iconst (M := mX12_carpet) (v := 0) 42 rfl dX12_carpet_41 (by decide) ?_
  cases h
  exact E_iret (M := mX12_carpet) rfl dX12_carpet_42
def f_X12_carpet_34 (x1 : Int32) (x2 : Int32) (y1 : Bool) (I : MI) (L : ML) : Option (Int32 × MI × ML) := Option.bind (f_X12_throwsIf y1 2 I L) fun w1 => if w1.1 = true then (f_X12_carpet_41 w1.2.1 w1.2.2) else (Option.bind (f_X12_remembers w1.2.1 w1.2.2) fun w3 => Option.bind (ldI w3.1 150 2143 (15 + x1)) fun v4 => Option.bind (stI w3.1 150 2143 (15 + x1) x2) fun I5 => some (v4, I5, w3.2))
set_option maxRecDepth 100000 in
theorem S_X12_carpet_34 {g : Gx} (x1 : Int32) (x2 : Int32) (y1 : Bool) (I : MI) (L : ML) (res : Int32 × MI × ML) (h : f_X12_carpet_34 x1 x2 y1 I L = some res) : E g 3 0 mX12_carpet 34 [(0, .ref 149), (1, .int x1), (2, .int x2)] [.int (bI y1), .ref 149] (I, L) (.inl (some (.int res.1))) (res.2.1, res.2.2) := by
  unfold f_X12_carpet_34 at h
  refine E_iconst (M := mX12_carpet) (v := 2) 35 rfl dX12_carpet_34 (by decide) ?_
  replace h := Option.bind_eq_some_iff.mp h
  obtain ⟨w1, hw1, h⟩ := h
  refine E_cV1 (M := mX12_carpet) (As := [.int (bI y1), .int 2]) 38 rfl dX12_carpet_35 shc_149 ck_X12_245 cv_X12_throwsIf rfl (by decide) (Nat.le_of_ble_eq_true rfl) (C_X12_throwsIf (g := g) hw1) rfl ?_
  refine E_if_eqB (M := mX12_carpet) 43 41 (by decide) rfl dX12_carpet_38 (fun c2 => ?_) (fun c2 => ?_)
  · rw [if_neg (by rw [c2]; decide)] at h
    refine E_aload_n (M := mX12_carpet) 44 rfl dX12_carpet_43 rfl 0 rfl ?_
    replace h := Option.bind_eq_some_iff.mp h
    obtain ⟨w3, hw3, h⟩ := h
    refine E_cV0 (M := mX12_carpet) (As := []) 47 rfl dX12_carpet_44 shc_149 ck_X12_329 cv_X12_remembers rfl (by decide) (Nat.le_of_ble_eq_true rfl) (C_X12_remembers (g := g) hw3) rfl ?_
    refine E_aload_n (M := mX12_carpet) 48 rfl dX12_carpet_47 rfl 0 rfl ?_
    refine E_gR (M := mX12_carpet) 150 51 rfl dX12_carpet_48 shc_149 fl_X12_13 rfl (by decide) (by decide) ?_
    refine E_bipush (M := mX12_carpet) (v := 15) 53 rfl dX12_carpet_51 (by decide) ?_
    refine E_iload_n (M := mX12_carpet) 54 rfl dX12_carpet_53 rfl 1 rfl ?_
    refine E_iadd (M := mX12_carpet) 55 rfl dX12_carpet_54 ?_
    replace h := Option.bind_eq_some_iff.mp h
    obtain ⟨v4, hv4, h⟩ := h
    refine E_ldI (M := mX12_carpet) 56 rfl dX12_carpet_55 shc_150 hv4 ?_
    refine E_istore_n (M := mX12_carpet) (lv' := [(3, .int v4), (0, .ref 149), (1, .int x1), (2, .int x2)]) 57 rfl dX12_carpet_56 rfl (Nat.le_of_ble_eq_true rfl) rfl ?_
    refine E_aload_n (M := mX12_carpet) 58 rfl dX12_carpet_57 rfl 1 rfl ?_
    refine E_gR (M := mX12_carpet) 150 61 rfl dX12_carpet_58 shc_149 fl_X12_13 rfl (by decide) (by decide) ?_
    refine E_bipush (M := mX12_carpet) (v := 15) 63 rfl dX12_carpet_61 (by decide) ?_
    refine E_iload_n (M := mX12_carpet) 64 rfl dX12_carpet_63 rfl 2 rfl ?_
    refine E_iadd (M := mX12_carpet) 65 rfl dX12_carpet_64 ?_
    refine E_iload_n (M := mX12_carpet) 66 rfl dX12_carpet_65 rfl 3 rfl ?_
    replace h := Option.bind_eq_some_iff.mp h
    obtain ⟨I5, hI5, h⟩ := h
    refine E_stI (M := mX12_carpet) 67 rfl dX12_carpet_66 shc_150 hI5 ?_
    refine E_iload_n (M := mX12_carpet) 68 rfl dX12_carpet_67 rfl 0 rfl ?_
    cases h
    exact E_iret (M := mX12_carpet) rfl dX12_carpet_68
  · rw [if_pos c2] at h
    refine E_sub (M := mX12_carpet) (lv' := []) [] rfl ?_
    exact S_X12_carpet_41 w1.2.1 w1.2.2 _ h
def f_X12_carpet (x1 : Int32) (x2 : Int32) (I : MI) (L : ML) : Option (Int32 × MI × ML) := Option.bind (pfI I 149 0 0) fun I1 => Option.bind (f_X12_noRoom x1 I1 L) fun v2 => Option.bind (f_X12_throwsIf v2 1 I1 L) fun w3 => if w3.1 = true then (f_X12_carpet_41 w3.2.1 w3.2.2) else (Option.bind (f_X12_in x2 0 20 w3.2.1 w3.2.2) fun v5 => if v5 = true then (f_X12_carpet_34 x1 x2 false w3.2.1 w3.2.2) else (f_X12_carpet_34 x1 x2 true w3.2.1 w3.2.2))
set_option maxRecDepth 100000 in
theorem S_X12_carpet {g : Gx} (x1 : Int32) (x2 : Int32) (I : MI) (L : ML) (res : Int32 × MI × ML) (h : f_X12_carpet x1 x2 I L = some res) : E g 3 0 mX12_carpet 0 [(0, .ref 149), (1, .int x1), (2, .int x2)] [] (I, L) (.inl (some (.int res.1))) (res.2.1, res.2.2) := by
  unfold f_X12_carpet at h
  refine E_aload_n (M := mX12_carpet) 1 rfl dX12_carpet_0 rfl 0 rfl ?_
  refine E_iconst (M := mX12_carpet) (v := 0) 2 rfl dX12_carpet_1 (by decide) ?_
  replace h := Option.bind_eq_some_iff.mp h
  obtain ⟨I1, hI1, h⟩ := h
  refine E_pfI (M := mX12_carpet) 5 rfl dX12_carpet_2 shc_149 fl_X12_3 rfl hI1 ?_
  refine E_aload_n (M := mX12_carpet) 6 rfl dX12_carpet_5 rfl 0 rfl ?_
  refine E_aload_n (M := mX12_carpet) 7 rfl dX12_carpet_6 rfl 0 rfl ?_
  refine E_iload_n (M := mX12_carpet) 8 rfl dX12_carpet_7 rfl 1 rfl ?_
  replace h := Option.bind_eq_some_iff.mp h
  obtain ⟨v2, hv2, h⟩ := h
  refine E_cV1 (M := mX12_carpet) (As := [.int x1]) 11 rfl dX12_carpet_8 shc_149 ck_X12_292 cv_X12_noRoom rfl (by decide) (Nat.le_of_ble_eq_true rfl) (C_X12_noRoom (g := g) hv2) rfl ?_
  refine E_iconst (M := mX12_carpet) (v := 1) 12 rfl dX12_carpet_11 (by decide) ?_
  replace h := Option.bind_eq_some_iff.mp h
  obtain ⟨w3, hw3, h⟩ := h
  refine E_cV1 (M := mX12_carpet) (As := [.int (bI v2), .int 1]) 15 rfl dX12_carpet_12 shc_149 ck_X12_245 cv_X12_throwsIf rfl (by decide) (Nat.le_of_ble_eq_true rfl) (C_X12_throwsIf (g := g) hw3) rfl ?_
  refine E_if_neB (M := mX12_carpet) 41 18 (by decide) rfl dX12_carpet_15 (fun c4 => ?_) (fun c4 => ?_)
  · rw [if_pos c4] at h
    refine E_sub (M := mX12_carpet) (lv' := []) [] rfl ?_
    exact S_X12_carpet_41 w3.2.1 w3.2.2 _ h
  · rw [if_neg (by rw [c4]; decide)] at h
    refine E_aload_n (M := mX12_carpet) 19 rfl dX12_carpet_18 rfl 0 rfl ?_
    refine E_iload_n (M := mX12_carpet) 20 rfl dX12_carpet_19 rfl 2 rfl ?_
    refine E_iconst (M := mX12_carpet) (v := 0) 21 rfl dX12_carpet_20 (by decide) ?_
    refine E_bipush (M := mX12_carpet) (v := 20) 23 rfl dX12_carpet_21 (by decide) ?_
    replace h := Option.bind_eq_some_iff.mp h
    obtain ⟨v5, hv5, h⟩ := h
    refine E_cS1 (M := mX12_carpet) (As := [.int x2, .int 0, .int 20]) 26 rfl dX12_carpet_23 ck_X12_60 ss_X12_in rfl (by decide) (Nat.le_of_ble_eq_true rfl) (C_X12_in (g := g) hv5) rfl ?_
    refine E_if_neB (M := mX12_carpet) 33 29 (by decide) rfl dX12_carpet_26 (fun c6 => ?_) (fun c6 => ?_)
    · rw [if_pos c6] at h
      refine E_iconst (M := mX12_carpet) (v := 0) 34 rfl dX12_carpet_33 (by decide) ?_
      refine E_sub (M := mX12_carpet) (lv' := [(0, .ref 149), (1, .int x1), (2, .int x2)]) [0, 1, 2] rfl ?_
      exact S_X12_carpet_34 x1 x2 false w3.2.1 w3.2.2 _ h
    · rw [if_neg (by rw [c6]; decide)] at h
      refine E_iconst (M := mX12_carpet) (v := 1) 30 rfl dX12_carpet_29 (by decide) ?_
      refine E_goto (M := mX12_carpet) 34 (by decide) dX12_carpet_30 ?_
      refine E_sub (M := mX12_carpet) (lv' := [(0, .ref 149), (1, .int x1), (2, .int x2)]) [0, 1, 2] rfl ?_
      exact S_X12_carpet_34 x1 x2 true w3.2.1 w3.2.2 _ h
theorem C_X12_carpet {g : Gx} {x1 : Int32} {x2 : Int32} {I : MI} {L : ML} {res : Int32 × MI × ML} (h : f_X12_carpet x1 x2 I L = some res) : Ent g 3 0 mX12_carpet [.ref 149, .int x1, .int x2] (I, L) (.inl (some (.int res.1))) (res.2.1, res.2.2) := Ent_of (by decide +kernel) (Nat.le_of_ble_eq_true rfl) (S_X12_carpet x1 x2 I L _ h)
def f_X12_weightOf (x1 : Int32) (x2 : Int32) (x3 : Int32) (I : MI) (L : ML) : Option (Int32) := Option.bind (f_X12_of x1 2 I L) fun v1 => Option.bind (f_X12_atOf x1 x2 I L) fun v2 => some ((if 0 < (10 - (if 0 ≤ (v1 - x3) then (v1 - x3) else 0 - (v1 - x3))) then (10 - (if 0 ≤ (v1 - x3) then (v1 - x3) else 0 - (v1 - x3))) else 0) * v2)
set_option maxRecDepth 100000 in
theorem S_X12_weightOf {g : Gx} (x1 : Int32) (x2 : Int32) (x3 : Int32) (I : MI) (L : ML) (res : Int32) (h : f_X12_weightOf x1 x2 x3 I L = some res) : E g 6 0 mX12_weightOf 0 [(0, .ref 149), (1, .int x1), (2, .int x2), (3, .int x3)] [] (I, L) (.inl (some (.int res))) (I, L) := by
  unfold f_X12_weightOf at h
  refine E_iconst (M := mX12_weightOf) (v := 0) 1 rfl dX12_weightOf_0 (by decide) ?_
  refine E_bipush (M := mX12_weightOf) (v := 10) 3 rfl dX12_weightOf_1 (by decide) ?_
  refine E_aload_n (M := mX12_weightOf) 4 rfl dX12_weightOf_3 rfl 0 rfl ?_
  refine E_iload_n (M := mX12_weightOf) 5 rfl dX12_weightOf_4 rfl 1 rfl ?_
  refine E_iconst (M := mX12_weightOf) (v := 2) 6 rfl dX12_weightOf_5 (by decide) ?_
  replace h := Option.bind_eq_some_iff.mp h
  obtain ⟨v1, hv1, h⟩ := h
  refine E_cV1 (M := mX12_weightOf) (As := [.int x1, .int 2]) 9 rfl dX12_weightOf_6 shc_149 ck_X12_260 cv_X12_of rfl (by decide) (Nat.le_of_ble_eq_true rfl) (C_X12_of (g := g) hv1) rfl ?_
  refine E_iload_n (M := mX12_weightOf) 10 rfl dX12_weightOf_9 rfl 3 rfl ?_
  refine E_isub (M := mX12_weightOf) 11 rfl dX12_weightOf_10 ?_
  refine E_abs (M := mX12_weightOf) 14 rfl dX12_weightOf_11 jm_X12_332 (by decide) (Nat.le_of_ble_eq_true rfl) ?_
  refine E_isub (M := mX12_weightOf) 15 rfl dX12_weightOf_14 ?_
  refine E_max (M := mX12_weightOf) 18 rfl dX12_weightOf_15 jm_X12_263 (by decide) (Nat.le_of_ble_eq_true rfl) ?_
  refine E_aload_n (M := mX12_weightOf) 19 rfl dX12_weightOf_18 rfl 0 rfl ?_
  refine E_iload_n (M := mX12_weightOf) 20 rfl dX12_weightOf_19 rfl 1 rfl ?_
  refine E_iload_n (M := mX12_weightOf) 21 rfl dX12_weightOf_20 rfl 2 rfl ?_
  replace h := Option.bind_eq_some_iff.mp h
  obtain ⟨v2, hv2, h⟩ := h
  refine E_cV1 (M := mX12_weightOf) (As := [.int x1, .int x2]) 24 rfl dX12_weightOf_21 shc_149 ck_X12_269 cv_X12_atOf rfl (by decide) (Nat.le_of_ble_eq_true rfl) (C_X12_atOf (g := g) hv2) rfl ?_
  refine E_imul (M := mX12_weightOf) 25 rfl dX12_weightOf_24 ?_
  cases h
  exact E_iret (M := mX12_weightOf) rfl dX12_weightOf_25
theorem C_X12_weightOf {g : Gx} {x1 : Int32} {x2 : Int32} {x3 : Int32} {I : MI} {L : ML} {res : Int32} (h : f_X12_weightOf x1 x2 x3 I L = some res) : Ent g 6 0 mX12_weightOf [.ref 149, .int x1, .int x2, .int x3] (I, L) (.inl (some (.int res))) (I, L) := Ent_of (by decide +kernel) (Nat.le_of_ble_eq_true rfl) (S_X12_weightOf x1 x2 x3 I L _ h)
def f_X12_odds_120 (y0 : Int32) (I : MI) (L : ML) : Option (Int32 × MI × ML) := some (y0, I, L)
set_option maxRecDepth 100000 in
theorem S_X12_odds_120 {g : Gx} (y0 : Int32) (I : MI) (L : ML) (res : Int32 × MI × ML) (h : f_X12_odds_120 y0 I L = some res) : E g 7 0 mX12_odds 120 [] [.int y0] (I, L) (.inl (some (.int res.1))) (res.2.1, res.2.2) := by
  unfold f_X12_odds_120 at h
  cases h
  exact E_iret (M := mX12_odds) rfl dX12_odds_120
def f_X12_odds_69 : Nat → Int32 → Int32 → Int32 → Int32 → Int32 → MI → ML → Option (Int32 × MI × ML)
  | 0, _, _, _, _, _, _, _ => none
  | n + 1, x1, x2, x3, x4, x5, I, L => Option.bind (f_X12_noises I L) fun v1 => if v1 ≤ x5 then (if x4 = 0 then (f_X12_odds_120 0 I L) else (Option.bind (f_X12_weightOf x1 x2 x3 I L) fun v4 => Option.bind (dvI (10000 * v4) x4) fun v5 => f_X12_odds_120 v5 I L)) else (Option.bind (f_X12_weightOf x5 x2 x3 I L) fun v6 => f_X12_odds_69 n x1 x2 x3 (x4 + v6) (x5 + 1) I L)
set_option maxRecDepth 100000 in
theorem S_X12_odds_69 {g : Gx} : ∀ (n : Nat) (x1 : Int32) (x2 : Int32) (x3 : Int32) (x4 : Int32) (x5 : Int32) (I : MI) (L : ML) (res : Int32 × MI × ML), f_X12_odds_69 n x1 x2 x3 x4 x5 I L = some res → E g 7 0 mX12_odds 69 [(0, .ref 149), (1, .int x1), (2, .int x2), (3, .int x3), (4, .int x4), (5, .int x5)] [] (I, L) (.inl (some (.int res.1))) (res.2.1, res.2.2) := by
  intro n
  induction n with
  | zero =>
    intros
    rename_i h
    cases h
  | succ n ih =>
    intro x1 x2 x3 x4 x5 I L res h
    rw [f_X12_odds_69] at h
    refine E_iload (M := mX12_odds) 71 rfl dX12_odds_69 5 rfl ?_
    refine E_aload_n (M := mX12_odds) 72 rfl dX12_odds_71 rfl 0 rfl ?_
    replace h := Option.bind_eq_some_iff.mp h
    obtain ⟨v1, hv1, h⟩ := h
    refine E_cV1 (M := mX12_odds) (As := []) 75 rfl dX12_odds_72 shc_149 ck_X12_67 cv_X12_noises rfl (by decide) (Nat.le_of_ble_eq_true rfl) (C_X12_noises (g := g) hv1) rfl ?_
    refine E_icmp_ge (M := mX12_odds) 97 78 (by decide) rfl dX12_odds_75 (fun c2 => ?_) (fun c2 => ?_)
    · rw [if_pos c2] at h
      refine E_iload (M := mX12_odds) 99 rfl dX12_odds_97 4 rfl ?_
      refine E_if_ne (M := mX12_odds) 106 102 (by decide) rfl dX12_odds_99 (fun c3 => ?_) (fun c3 => ?_)
      · rw [if_neg c3] at h
        refine E_sipush (M := mX12_odds) (v := 10000) 109 rfl dX12_odds_106 (by decide) ?_
        refine E_aload_n (M := mX12_odds) 110 rfl dX12_odds_109 rfl 0 rfl ?_
        refine E_iload_n (M := mX12_odds) 111 rfl dX12_odds_110 rfl 1 rfl ?_
        refine E_iload_n (M := mX12_odds) 112 rfl dX12_odds_111 rfl 2 rfl ?_
        refine E_iload_n (M := mX12_odds) 113 rfl dX12_odds_112 rfl 3 rfl ?_
        replace h := Option.bind_eq_some_iff.mp h
        obtain ⟨v4, hv4, h⟩ := h
        refine E_cV1 (M := mX12_odds) (As := [.int x1, .int x2, .int x3]) 116 rfl dX12_odds_113 shc_149 ck_X12_335 cv_X12_weightOf rfl (by decide) (Nat.le_of_ble_eq_true rfl) (C_X12_weightOf (g := g) hv4) rfl ?_
        refine E_imul (M := mX12_odds) 117 rfl dX12_odds_116 ?_
        refine E_iload (M := mX12_odds) 119 rfl dX12_odds_117 4 rfl ?_
        replace h := Option.bind_eq_some_iff.mp h
        obtain ⟨v5, hv5, h⟩ := h
        refine E_dvI (M := mX12_odds) 120 rfl dX12_odds_119 hv5 ?_
        refine E_sub (M := mX12_odds) (lv' := []) [] rfl ?_
        exact S_X12_odds_120 v5 I L _ h
      · rw [if_pos c3] at h
        refine E_iconst (M := mX12_odds) (v := 0) 103 rfl dX12_odds_102 (by decide) ?_
        refine E_goto (M := mX12_odds) 120 (by decide) dX12_odds_103 ?_
        refine E_sub (M := mX12_odds) (lv' := []) [] rfl ?_
        exact S_X12_odds_120 0 I L _ h
    · rw [if_neg c2] at h
      refine E_iload (M := mX12_odds) 80 rfl dX12_odds_78 4 rfl ?_
      refine E_aload_n (M := mX12_odds) 81 rfl dX12_odds_80 rfl 0 rfl ?_
      refine E_iload (M := mX12_odds) 83 rfl dX12_odds_81 5 rfl ?_
      refine E_iload_n (M := mX12_odds) 84 rfl dX12_odds_83 rfl 2 rfl ?_
      refine E_iload_n (M := mX12_odds) 85 rfl dX12_odds_84 rfl 3 rfl ?_
      replace h := Option.bind_eq_some_iff.mp h
      obtain ⟨v6, hv6, h⟩ := h
      refine E_cV1 (M := mX12_odds) (As := [.int x5, .int x2, .int x3]) 88 rfl dX12_odds_85 shc_149 ck_X12_335 cv_X12_weightOf rfl (by decide) (Nat.le_of_ble_eq_true rfl) (C_X12_weightOf (g := g) hv6) rfl ?_
      refine E_iadd (M := mX12_odds) 89 rfl dX12_odds_88 ?_
      refine E_istore (M := mX12_odds) (lv' := [(4, .int (x4 + v6)), (0, .ref 149), (1, .int x1), (2, .int x2), (3, .int x3), (5, .int x5)]) 91 rfl dX12_odds_89 (Nat.le_of_ble_eq_true rfl) rfl ?_
      refine E_iinc (M := mX12_odds) (j := 5) (v := x5 + 1) (lv' := [(5, .int (x5 + 1)), (4, .int (x4 + v6)), (0, .ref 149), (1, .int x1), (2, .int x2), (3, .int x3)]) 94 rfl dX12_odds_91 rfl rfl (Nat.le_of_ble_eq_true rfl) rfl ?_
      refine E_goto (M := mX12_odds) 69 (by decide) dX12_odds_94 ?_
      refine E_sub (M := mX12_odds) (lv' := [(0, .ref 149), (1, .int x1), (2, .int x2), (3, .int x3), (4, .int (x4 + v6)), (5, .int (x5 + 1))]) [2, 3, 4, 5, 1, 0] rfl ?_
      exact ih x1 x2 x3 (x4 + v6) (x5 + 1) I L _ h
def f_X12_odds_57 (I : MI) (L : ML) : Option (Int32 × MI × ML) := some (0, I, L)
set_option maxRecDepth 100000 in
theorem S_X12_odds_57 {g : Gx} (I : MI) (L : ML) (res : Int32 × MI × ML) (h : f_X12_odds_57 I L = some res) : E g 7 0 mX12_odds 57 [] [] (I, L) (.inl (some (.int res.1))) (res.2.1, res.2.2) := by
  unfold f_X12_odds_57 at h
  refine E_iconst (M := mX12_odds) (v := 0) 58 rfl dX12_odds_57 (by decide) ?_
  cases h
  exact E_iret (M := mX12_odds) rfl dX12_odds_58
def f_X12_odds_50 (x1 : Int32) (x2 : Int32) (x3 : Int32) (y1 : Bool) (I : MI) (L : ML) : Option (Int32 × MI × ML) := Option.bind (f_X12_throwsIf y1 2 I L) fun w1 => if w1.1 = true then (f_X12_odds_57 w1.2.1 w1.2.2) else (Option.bind (f_X12_spreads w1.2.1 w1.2.2) fun w3 => f_X12_odds_69 FU x1 x2 x3 0 0 w3.1 w3.2)
set_option maxRecDepth 100000 in
theorem S_X12_odds_50 {g : Gx} (x1 : Int32) (x2 : Int32) (x3 : Int32) (y1 : Bool) (I : MI) (L : ML) (res : Int32 × MI × ML) (h : f_X12_odds_50 x1 x2 x3 y1 I L = some res) : E g 7 0 mX12_odds 50 [(0, .ref 149), (1, .int x1), (2, .int x2), (3, .int x3)] [.int (bI y1), .ref 149] (I, L) (.inl (some (.int res.1))) (res.2.1, res.2.2) := by
  unfold f_X12_odds_50 at h
  refine E_iconst (M := mX12_odds) (v := 2) 51 rfl dX12_odds_50 (by decide) ?_
  replace h := Option.bind_eq_some_iff.mp h
  obtain ⟨w1, hw1, h⟩ := h
  refine E_cV1 (M := mX12_odds) (As := [.int (bI y1), .int 2]) 54 rfl dX12_odds_51 shc_149 ck_X12_245 cv_X12_throwsIf rfl (by decide) (Nat.le_of_ble_eq_true rfl) (C_X12_throwsIf (g := g) hw1) rfl ?_
  refine E_if_eqB (M := mX12_odds) 59 57 (by decide) rfl dX12_odds_54 (fun c2 => ?_) (fun c2 => ?_)
  · rw [if_neg (by rw [c2]; decide)] at h
    refine E_aload_n (M := mX12_odds) 60 rfl dX12_odds_59 rfl 0 rfl ?_
    replace h := Option.bind_eq_some_iff.mp h
    obtain ⟨w3, hw3, h⟩ := h
    refine E_cV0 (M := mX12_odds) (As := []) 63 rfl dX12_odds_60 shc_149 ck_X12_298 cv_X12_spreads rfl (by decide) (Nat.le_of_ble_eq_true rfl) (C_X12_spreads (g := g) hw3) rfl ?_
    refine E_iconst (M := mX12_odds) (v := 0) 64 rfl dX12_odds_63 (by decide) ?_
    refine E_istore (M := mX12_odds) (lv' := [(4, .int 0), (0, .ref 149), (1, .int x1), (2, .int x2), (3, .int x3)]) 66 rfl dX12_odds_64 (Nat.le_of_ble_eq_true rfl) rfl ?_
    refine E_iconst (M := mX12_odds) (v := 0) 67 rfl dX12_odds_66 (by decide) ?_
    refine E_istore (M := mX12_odds) (lv' := [(5, .int 0), (4, .int 0), (0, .ref 149), (1, .int x1), (2, .int x2), (3, .int x3)]) 69 rfl dX12_odds_67 (Nat.le_of_ble_eq_true rfl) rfl ?_
    refine E_sub (M := mX12_odds) (lv' := [(0, .ref 149), (1, .int x1), (2, .int x2), (3, .int x3), (4, .int 0), (5, .int 0)]) [2, 3, 4, 5, 1, 0] rfl ?_
    exact S_X12_odds_69 FU x1 x2 x3 0 0 w3.1 w3.2 _ h
  · rw [if_pos c2] at h
    refine E_sub (M := mX12_odds) (lv' := []) [] rfl ?_
    exact S_X12_odds_57 w1.2.1 w1.2.2 _ h
def f_X12_odds_27 (x1 : Int32) (x2 : Int32) (x3 : Int32) (y1 : Bool) (I : MI) (L : ML) : Option (Int32 × MI × ML) := Option.bind (f_X12_throwsIf y1 1 I L) fun w1 => if w1.1 = true then (f_X12_odds_57 w1.2.1 w1.2.2) else (Option.bind (f_X12_in x3 0 99 w1.2.1 w1.2.2) fun v3 => if v3 = true then (f_X12_odds_50 x1 x2 x3 false w1.2.1 w1.2.2) else (f_X12_odds_50 x1 x2 x3 true w1.2.1 w1.2.2))
set_option maxRecDepth 100000 in
theorem S_X12_odds_27 {g : Gx} (x1 : Int32) (x2 : Int32) (x3 : Int32) (y1 : Bool) (I : MI) (L : ML) (res : Int32 × MI × ML) (h : f_X12_odds_27 x1 x2 x3 y1 I L = some res) : E g 7 0 mX12_odds 27 [(0, .ref 149), (1, .int x1), (2, .int x2), (3, .int x3)] [.int (bI y1), .ref 149] (I, L) (.inl (some (.int res.1))) (res.2.1, res.2.2) := by
  unfold f_X12_odds_27 at h
  refine E_iconst (M := mX12_odds) (v := 1) 28 rfl dX12_odds_27 (by decide) ?_
  replace h := Option.bind_eq_some_iff.mp h
  obtain ⟨w1, hw1, h⟩ := h
  refine E_cV1 (M := mX12_odds) (As := [.int (bI y1), .int 1]) 31 rfl dX12_odds_28 shc_149 ck_X12_245 cv_X12_throwsIf rfl (by decide) (Nat.le_of_ble_eq_true rfl) (C_X12_throwsIf (g := g) hw1) rfl ?_
  refine E_if_neB (M := mX12_odds) 57 34 (by decide) rfl dX12_odds_31 (fun c2 => ?_) (fun c2 => ?_)
  · rw [if_pos c2] at h
    refine E_sub (M := mX12_odds) (lv' := []) [] rfl ?_
    exact S_X12_odds_57 w1.2.1 w1.2.2 _ h
  · rw [if_neg (by rw [c2]; decide)] at h
    refine E_aload_n (M := mX12_odds) 35 rfl dX12_odds_34 rfl 0 rfl ?_
    refine E_iload_n (M := mX12_odds) 36 rfl dX12_odds_35 rfl 3 rfl ?_
    refine E_iconst (M := mX12_odds) (v := 0) 37 rfl dX12_odds_36 (by decide) ?_
    refine E_bipush (M := mX12_odds) (v := 99) 39 rfl dX12_odds_37 (by decide) ?_
    replace h := Option.bind_eq_some_iff.mp h
    obtain ⟨v3, hv3, h⟩ := h
    refine E_cS1 (M := mX12_odds) (As := [.int x3, .int 0, .int 99]) 42 rfl dX12_odds_39 ck_X12_60 ss_X12_in rfl (by decide) (Nat.le_of_ble_eq_true rfl) (C_X12_in (g := g) hv3) rfl ?_
    refine E_if_neB (M := mX12_odds) 49 45 (by decide) rfl dX12_odds_42 (fun c4 => ?_) (fun c4 => ?_)
    · rw [if_pos c4] at h
      refine E_iconst (M := mX12_odds) (v := 0) 50 rfl dX12_odds_49 (by decide) ?_
      refine E_sub (M := mX12_odds) (lv' := [(0, .ref 149), (1, .int x1), (2, .int x2), (3, .int x3)]) [0, 1, 2, 3] rfl ?_
      exact S_X12_odds_50 x1 x2 x3 false w1.2.1 w1.2.2 _ h
    · rw [if_neg (by rw [c4]; decide)] at h
      refine E_iconst (M := mX12_odds) (v := 1) 46 rfl dX12_odds_45 (by decide) ?_
      refine E_goto (M := mX12_odds) 50 (by decide) dX12_odds_46 ?_
      refine E_sub (M := mX12_odds) (lv' := [(0, .ref 149), (1, .int x1), (2, .int x2), (3, .int x3)]) [0, 1, 2, 3] rfl ?_
      exact S_X12_odds_50 x1 x2 x3 true w1.2.1 w1.2.2 _ h
def f_X12_odds_22 (x1 : Int32) (x2 : Int32) (x3 : Int32) (I : MI) (L : ML) : Option (Int32 × MI × ML) := f_X12_odds_27 x1 x2 x3 true I L
set_option maxRecDepth 100000 in
theorem S_X12_odds_22 {g : Gx} (x1 : Int32) (x2 : Int32) (x3 : Int32) (I : MI) (L : ML) (res : Int32 × MI × ML) (h : f_X12_odds_22 x1 x2 x3 I L = some res) : E g 7 0 mX12_odds 22 [(0, .ref 149), (1, .int x1), (2, .int x2), (3, .int x3)] [.ref 149] (I, L) (.inl (some (.int res.1))) (res.2.1, res.2.2) := by
  unfold f_X12_odds_22 at h
  refine E_iconst (M := mX12_odds) (v := 1) 23 rfl dX12_odds_22 (by decide) ?_
  refine E_goto (M := mX12_odds) 27 (by decide) dX12_odds_23 ?_
  refine E_sub (M := mX12_odds) (lv' := [(0, .ref 149), (1, .int x1), (2, .int x2), (3, .int x3)]) [0, 1, 2, 3] rfl ?_
  exact S_X12_odds_27 x1 x2 x3 true I L _ h
def f_X12_odds (x1 : Int32) (x2 : Int32) (x3 : Int32) (I : MI) (L : ML) : Option (Int32 × MI × ML) := Option.bind (pfI I 149 0 0) fun I1 => Option.bind (f_X12_noNoise x1 I1 L) fun v2 => if v2 = true then (f_X12_odds_22 x1 x2 x3 I1 L) else (Option.bind (f_X12_noRoom x2 I1 L) fun v4 => if v4 = true then (f_X12_odds_22 x1 x2 x3 I1 L) else (f_X12_odds_27 x1 x2 x3 false I1 L))
set_option maxRecDepth 100000 in
theorem S_X12_odds {g : Gx} (x1 : Int32) (x2 : Int32) (x3 : Int32) (I : MI) (L : ML) (res : Int32 × MI × ML) (h : f_X12_odds x1 x2 x3 I L = some res) : E g 7 0 mX12_odds 0 [(0, .ref 149), (1, .int x1), (2, .int x2), (3, .int x3)] [] (I, L) (.inl (some (.int res.1))) (res.2.1, res.2.2) := by
  unfold f_X12_odds at h
  refine E_aload_n (M := mX12_odds) 1 rfl dX12_odds_0 rfl 0 rfl ?_
  refine E_iconst (M := mX12_odds) (v := 0) 2 rfl dX12_odds_1 (by decide) ?_
  replace h := Option.bind_eq_some_iff.mp h
  obtain ⟨I1, hI1, h⟩ := h
  refine E_pfI (M := mX12_odds) 5 rfl dX12_odds_2 shc_149 fl_X12_3 rfl hI1 ?_
  refine E_aload_n (M := mX12_odds) 6 rfl dX12_odds_5 rfl 0 rfl ?_
  refine E_aload_n (M := mX12_odds) 7 rfl dX12_odds_6 rfl 0 rfl ?_
  refine E_iload_n (M := mX12_odds) 8 rfl dX12_odds_7 rfl 1 rfl ?_
  replace h := Option.bind_eq_some_iff.mp h
  obtain ⟨v2, hv2, h⟩ := h
  refine E_cV1 (M := mX12_odds) (As := [.int x1]) 11 rfl dX12_odds_8 shc_149 ck_X12_304 cv_X12_noNoise rfl (by decide) (Nat.le_of_ble_eq_true rfl) (C_X12_noNoise (g := g) hv2) rfl ?_
  refine E_if_neB (M := mX12_odds) 22 14 (by decide) rfl dX12_odds_11 (fun c3 => ?_) (fun c3 => ?_)
  · rw [if_pos c3] at h
    refine E_sub (M := mX12_odds) (lv' := [(0, .ref 149), (1, .int x1), (2, .int x2), (3, .int x3)]) [0, 1, 2, 3] rfl ?_
    exact S_X12_odds_22 x1 x2 x3 I1 L _ h
  · rw [if_neg (by rw [c3]; decide)] at h
    refine E_aload_n (M := mX12_odds) 15 rfl dX12_odds_14 rfl 0 rfl ?_
    refine E_iload_n (M := mX12_odds) 16 rfl dX12_odds_15 rfl 2 rfl ?_
    replace h := Option.bind_eq_some_iff.mp h
    obtain ⟨v4, hv4, h⟩ := h
    refine E_cV1 (M := mX12_odds) (As := [.int x2]) 19 rfl dX12_odds_16 shc_149 ck_X12_292 cv_X12_noRoom rfl (by decide) (Nat.le_of_ble_eq_true rfl) (C_X12_noRoom (g := g) hv4) rfl ?_
    refine E_if_eqB (M := mX12_odds) 26 22 (by decide) rfl dX12_odds_19 (fun c5 => ?_) (fun c5 => ?_)
    · rw [if_neg (by rw [c5]; decide)] at h
      refine E_iconst (M := mX12_odds) (v := 0) 27 rfl dX12_odds_26 (by decide) ?_
      refine E_sub (M := mX12_odds) (lv' := [(0, .ref 149), (1, .int x1), (2, .int x2), (3, .int x3)]) [0, 1, 2, 3] rfl ?_
      exact S_X12_odds_27 x1 x2 x3 false I1 L _ h
    · rw [if_pos c5] at h
      refine E_sub (M := mX12_odds) (lv' := [(0, .ref 149), (1, .int x1), (2, .int x2), (3, .int x3)]) [0, 1, 2, 3] rfl ?_
      exact S_X12_odds_22 x1 x2 x3 I1 L _ h
theorem C_X12_odds {g : Gx} {x1 : Int32} {x2 : Int32} {x3 : Int32} {I : MI} {L : ML} {res : Int32 × MI × ML} (h : f_X12_odds x1 x2 x3 I L = some res) : Ent g 7 0 mX12_odds [.ref 149, .int x1, .int x2, .int x3] (I, L) (.inl (some (.int res.1))) (res.2.1, res.2.2) := Ent_of (by decide +kernel) (Nat.le_of_ble_eq_true rfl) (S_X12_odds x1 x2 x3 I L _ h)
def f_X12_likeliest_87 (k55 : Int32 → Int32 → Int32 → Int32 → Int32 → MI → ML → Option (Int32 × MI × ML)) (x1 : Int32) (x2 : Int32) (x4 : Int32) (x5 : Int32) (x6 : Int32) (y0 : Int32) (I : MI) (L : ML) : Option (Int32 × MI × ML) := k55 x1 x2 y0 (if x4 < x6 then x6 else x4) (x5 + 1) I L
set_option maxRecDepth 100000 in
theorem S_X12_likeliest_87 {g : Gx} {k55 : Int32 → Int32 → Int32 → Int32 → Int32 → MI → ML → Option (Int32 × MI × ML)} (hk55 : ∀ (x1z : Int32) (x2z : Int32) (x3z : Int32) (x4z : Int32) (x5z : Int32) (I : MI) (L : ML) (res : Int32 × MI × ML), k55 x1z x2z x3z x4z x5z I L = some res → E g 7 0 mX12_likeliest 55 [(0, .ref 149), (1, .int x1z), (2, .int x2z), (3, .int x3z), (4, .int x4z), (5, .int x5z)] [] (I, L) (.inl (some (.int res.1))) (res.2.1, res.2.2)) (x1 : Int32) (x2 : Int32) (x4 : Int32) (x5 : Int32) (x6 : Int32) (y0 : Int32) (I : MI) (L : ML) (res : Int32 × MI × ML) (h : f_X12_likeliest_87 k55 x1 x2 x4 x5 x6 y0 I L = some res) : E g 7 0 mX12_likeliest 87 [(0, .ref 149), (1, .int x1), (2, .int x2), (4, .int x4), (5, .int x5), (6, .int x6)] [.int y0] (I, L) (.inl (some (.int res.1))) (res.2.1, res.2.2) := by
  unfold f_X12_likeliest_87 at h
  refine E_istore_n (M := mX12_likeliest) (lv' := [(3, .int y0), (0, .ref 149), (1, .int x1), (2, .int x2), (4, .int x4), (5, .int x5), (6, .int x6)]) 88 rfl dX12_likeliest_87 rfl (Nat.le_of_ble_eq_true rfl) rfl ?_
  refine E_iload (M := mX12_likeliest) 90 rfl dX12_likeliest_88 4 rfl ?_
  refine E_iload (M := mX12_likeliest) 92 rfl dX12_likeliest_90 6 rfl ?_
  refine E_max (M := mX12_likeliest) 95 rfl dX12_likeliest_92 jm_X12_263 (by decide) (Nat.le_of_ble_eq_true rfl) ?_
  refine E_istore (M := mX12_likeliest) (lv' := [(4, .int (if x4 < x6 then x6 else x4)), (3, .int y0), (0, .ref 149), (1, .int x1), (2, .int x2), (5, .int x5), (6, .int x6)]) 97 rfl dX12_likeliest_95 (Nat.le_of_ble_eq_true rfl) rfl ?_
  refine E_iinc (M := mX12_likeliest) (j := 5) (v := x5 + 1) (lv' := [(5, .int (x5 + 1)), (4, .int (if x4 < x6 then x6 else x4)), (3, .int y0), (0, .ref 149), (1, .int x1), (2, .int x2), (6, .int x6)]) 100 rfl dX12_likeliest_97 rfl rfl (Nat.le_of_ble_eq_true rfl) rfl ?_
  refine E_goto (M := mX12_likeliest) 55 (by decide) dX12_likeliest_100 ?_
  refine E_sub (M := mX12_likeliest) (lv' := [(0, .ref 149), (1, .int x1), (2, .int x2), (3, .int y0), (4, .int (if x4 < x6 then x6 else x4)), (5, .int (x5 + 1))]) [3, 4, 5, 2, 1, 0] rfl ?_
  exact hk55 x1 x2 y0 (if x4 < x6 then x6 else x4) (x5 + 1) I L _ h
def f_X12_likeliest_55 : Nat → Int32 → Int32 → Int32 → Int32 → Int32 → MI → ML → Option (Int32 × MI × ML)
  | 0, _, _, _, _, _, _, _ => none
  | n + 1, x1, x2, x3, x4, x5, I, L => Option.bind (f_X12_noises I L) fun v1 => if v1 ≤ x5 then (some (x3, I, L)) else (Option.bind (f_X12_weightOf x5 x1 x2 I L) fun v3 => if v3 ≤ x4 then (f_X12_likeliest_87 (f_X12_likeliest_55 n) x1 x2 x4 x5 v3 x3 I L) else (f_X12_likeliest_87 (f_X12_likeliest_55 n) x1 x2 x4 x5 v3 x5 I L))
set_option maxRecDepth 100000 in
theorem S_X12_likeliest_55 {g : Gx} : ∀ (n : Nat) (x1 : Int32) (x2 : Int32) (x3 : Int32) (x4 : Int32) (x5 : Int32) (I : MI) (L : ML) (res : Int32 × MI × ML), f_X12_likeliest_55 n x1 x2 x3 x4 x5 I L = some res → E g 7 0 mX12_likeliest 55 [(0, .ref 149), (1, .int x1), (2, .int x2), (3, .int x3), (4, .int x4), (5, .int x5)] [] (I, L) (.inl (some (.int res.1))) (res.2.1, res.2.2) := by
  intro n
  induction n with
  | zero =>
    intros
    rename_i h
    cases h
  | succ n ih =>
    intro x1 x2 x3 x4 x5 I L res h
    rw [f_X12_likeliest_55] at h
    refine E_iload (M := mX12_likeliest) 57 rfl dX12_likeliest_55 5 rfl ?_
    refine E_aload_n (M := mX12_likeliest) 58 rfl dX12_likeliest_57 rfl 0 rfl ?_
    replace h := Option.bind_eq_some_iff.mp h
    obtain ⟨v1, hv1, h⟩ := h
    refine E_cV1 (M := mX12_likeliest) (As := []) 61 rfl dX12_likeliest_58 shc_149 ck_X12_67 cv_X12_noises rfl (by decide) (Nat.le_of_ble_eq_true rfl) (C_X12_noises (g := g) hv1) rfl ?_
    refine E_icmp_ge (M := mX12_likeliest) 103 64 (by decide) rfl dX12_likeliest_61 (fun c2 => ?_) (fun c2 => ?_)
    · rw [if_pos c2] at h
      refine E_iload_n (M := mX12_likeliest) 104 rfl dX12_likeliest_103 rfl 3 rfl ?_
      cases h
      exact E_iret (M := mX12_likeliest) rfl dX12_likeliest_104
    · rw [if_neg c2] at h
      refine E_aload_n (M := mX12_likeliest) 65 rfl dX12_likeliest_64 rfl 0 rfl ?_
      refine E_iload (M := mX12_likeliest) 67 rfl dX12_likeliest_65 5 rfl ?_
      refine E_iload_n (M := mX12_likeliest) 68 rfl dX12_likeliest_67 rfl 1 rfl ?_
      refine E_iload_n (M := mX12_likeliest) 69 rfl dX12_likeliest_68 rfl 2 rfl ?_
      replace h := Option.bind_eq_some_iff.mp h
      obtain ⟨v3, hv3, h⟩ := h
      refine E_cV1 (M := mX12_likeliest) (As := [.int x5, .int x1, .int x2]) 72 rfl dX12_likeliest_69 shc_149 ck_X12_335 cv_X12_weightOf rfl (by decide) (Nat.le_of_ble_eq_true rfl) (C_X12_weightOf (g := g) hv3) rfl ?_
      refine E_istore (M := mX12_likeliest) (lv' := [(6, .int v3), (0, .ref 149), (1, .int x1), (2, .int x2), (3, .int x3), (4, .int x4), (5, .int x5)]) 74 rfl dX12_likeliest_72 (Nat.le_of_ble_eq_true rfl) rfl ?_
      refine E_iload (M := mX12_likeliest) 76 rfl dX12_likeliest_74 0 rfl ?_
      refine E_iload (M := mX12_likeliest) 78 rfl dX12_likeliest_76 5 rfl ?_
      refine E_icmp_le (M := mX12_likeliest) 86 81 (by decide) rfl dX12_likeliest_78 (fun c4 => ?_) (fun c4 => ?_)
      · rw [if_pos c4] at h
        refine E_iload_n (M := mX12_likeliest) 87 rfl dX12_likeliest_86 rfl 4 rfl ?_
        refine E_sub (M := mX12_likeliest) (lv' := [(0, .ref 149), (1, .int x1), (2, .int x2), (4, .int x4), (5, .int x5), (6, .int v3)]) [1, 2, 3, 5, 6, 0] rfl ?_
        exact S_X12_likeliest_87 ih x1 x2 x4 x5 v3 x3 I L _ h
      · rw [if_neg c4] at h
        refine E_iload (M := mX12_likeliest) 83 rfl dX12_likeliest_81 6 rfl ?_
        refine E_goto (M := mX12_likeliest) 87 (by decide) dX12_likeliest_83 ?_
        refine E_sub (M := mX12_likeliest) (lv' := [(0, .ref 149), (1, .int x1), (2, .int x2), (4, .int x4), (5, .int x5), (6, .int v3)]) [1, 2, 3, 5, 6, 0] rfl ?_
        exact S_X12_likeliest_87 ih x1 x2 x4 x5 v3 x5 I L _ h
def f_X12_likeliest_41 (I : MI) (L : ML) : Option (Int32 × MI × ML) := some (0, I, L)
set_option maxRecDepth 100000 in
theorem S_X12_likeliest_41 {g : Gx} (I : MI) (L : ML) (res : Int32 × MI × ML) (h : f_X12_likeliest_41 I L = some res) : E g 7 0 mX12_likeliest 41 [] [] (I, L) (.inl (some (.int res.1))) (res.2.1, res.2.2) := by
  unfold f_X12_likeliest_41 at h
  refine E_iconst (M := mX12_likeliest) (v := 0) 42 rfl dX12_likeliest_41 (by decide) ?_
  cases h
  exact E_iret (M := mX12_likeliest) rfl dX12_likeliest_42
def f_X12_likeliest_34 (x1 : Int32) (x2 : Int32) (y1 : Bool) (I : MI) (L : ML) : Option (Int32 × MI × ML) := Option.bind (f_X12_throwsIf y1 2 I L) fun w1 => if w1.1 = true then (f_X12_likeliest_41 w1.2.1 w1.2.2) else (Option.bind (f_X12_spreads w1.2.1 w1.2.2) fun w3 => f_X12_likeliest_55 FU x1 x2 ((-1)) 0 0 w3.1 w3.2)
set_option maxRecDepth 100000 in
theorem S_X12_likeliest_34 {g : Gx} (x1 : Int32) (x2 : Int32) (y1 : Bool) (I : MI) (L : ML) (res : Int32 × MI × ML) (h : f_X12_likeliest_34 x1 x2 y1 I L = some res) : E g 7 0 mX12_likeliest 34 [(0, .ref 149), (1, .int x1), (2, .int x2)] [.int (bI y1), .ref 149] (I, L) (.inl (some (.int res.1))) (res.2.1, res.2.2) := by
  unfold f_X12_likeliest_34 at h
  refine E_iconst (M := mX12_likeliest) (v := 2) 35 rfl dX12_likeliest_34 (by decide) ?_
  replace h := Option.bind_eq_some_iff.mp h
  obtain ⟨w1, hw1, h⟩ := h
  refine E_cV1 (M := mX12_likeliest) (As := [.int (bI y1), .int 2]) 38 rfl dX12_likeliest_35 shc_149 ck_X12_245 cv_X12_throwsIf rfl (by decide) (Nat.le_of_ble_eq_true rfl) (C_X12_throwsIf (g := g) hw1) rfl ?_
  refine E_if_eqB (M := mX12_likeliest) 43 41 (by decide) rfl dX12_likeliest_38 (fun c2 => ?_) (fun c2 => ?_)
  · rw [if_neg (by rw [c2]; decide)] at h
    refine E_aload_n (M := mX12_likeliest) 44 rfl dX12_likeliest_43 rfl 0 rfl ?_
    replace h := Option.bind_eq_some_iff.mp h
    obtain ⟨w3, hw3, h⟩ := h
    refine E_cV0 (M := mX12_likeliest) (As := []) 47 rfl dX12_likeliest_44 shc_149 ck_X12_298 cv_X12_spreads rfl (by decide) (Nat.le_of_ble_eq_true rfl) (C_X12_spreads (g := g) hw3) rfl ?_
    refine E_iconst (M := mX12_likeliest) (v := (-1)) 48 rfl dX12_likeliest_47 (by decide) ?_
    refine E_istore_n (M := mX12_likeliest) (lv' := [(3, .int ((-1))), (0, .ref 149), (1, .int x1), (2, .int x2)]) 49 rfl dX12_likeliest_48 rfl (Nat.le_of_ble_eq_true rfl) rfl ?_
    refine E_iconst (M := mX12_likeliest) (v := 0) 50 rfl dX12_likeliest_49 (by decide) ?_
    refine E_istore (M := mX12_likeliest) (lv' := [(4, .int 0), (3, .int ((-1))), (0, .ref 149), (1, .int x1), (2, .int x2)]) 52 rfl dX12_likeliest_50 (Nat.le_of_ble_eq_true rfl) rfl ?_
    refine E_iconst (M := mX12_likeliest) (v := 0) 53 rfl dX12_likeliest_52 (by decide) ?_
    refine E_istore (M := mX12_likeliest) (lv' := [(5, .int 0), (4, .int 0), (3, .int ((-1))), (0, .ref 149), (1, .int x1), (2, .int x2)]) 55 rfl dX12_likeliest_53 (Nat.le_of_ble_eq_true rfl) rfl ?_
    refine E_sub (M := mX12_likeliest) (lv' := [(0, .ref 149), (1, .int x1), (2, .int x2), (3, .int ((-1))), (4, .int 0), (5, .int 0)]) [3, 4, 5, 2, 1, 0] rfl ?_
    exact S_X12_likeliest_55 FU x1 x2 ((-1)) 0 0 w3.1 w3.2 _ h
  · rw [if_pos c2] at h
    refine E_sub (M := mX12_likeliest) (lv' := []) [] rfl ?_
    exact S_X12_likeliest_41 w1.2.1 w1.2.2 _ h
def f_X12_likeliest (x1 : Int32) (x2 : Int32) (I : MI) (L : ML) : Option (Int32 × MI × ML) := Option.bind (pfI I 149 0 0) fun I1 => Option.bind (f_X12_noRoom x1 I1 L) fun v2 => Option.bind (f_X12_throwsIf v2 1 I1 L) fun w3 => if w3.1 = true then (f_X12_likeliest_41 w3.2.1 w3.2.2) else (Option.bind (f_X12_in x2 0 99 w3.2.1 w3.2.2) fun v5 => if v5 = true then (f_X12_likeliest_34 x1 x2 false w3.2.1 w3.2.2) else (f_X12_likeliest_34 x1 x2 true w3.2.1 w3.2.2))
set_option maxRecDepth 100000 in
theorem S_X12_likeliest {g : Gx} (x1 : Int32) (x2 : Int32) (I : MI) (L : ML) (res : Int32 × MI × ML) (h : f_X12_likeliest x1 x2 I L = some res) : E g 7 0 mX12_likeliest 0 [(0, .ref 149), (1, .int x1), (2, .int x2)] [] (I, L) (.inl (some (.int res.1))) (res.2.1, res.2.2) := by
  unfold f_X12_likeliest at h
  refine E_aload_n (M := mX12_likeliest) 1 rfl dX12_likeliest_0 rfl 0 rfl ?_
  refine E_iconst (M := mX12_likeliest) (v := 0) 2 rfl dX12_likeliest_1 (by decide) ?_
  replace h := Option.bind_eq_some_iff.mp h
  obtain ⟨I1, hI1, h⟩ := h
  refine E_pfI (M := mX12_likeliest) 5 rfl dX12_likeliest_2 shc_149 fl_X12_3 rfl hI1 ?_
  refine E_aload_n (M := mX12_likeliest) 6 rfl dX12_likeliest_5 rfl 0 rfl ?_
  refine E_aload_n (M := mX12_likeliest) 7 rfl dX12_likeliest_6 rfl 0 rfl ?_
  refine E_iload_n (M := mX12_likeliest) 8 rfl dX12_likeliest_7 rfl 1 rfl ?_
  replace h := Option.bind_eq_some_iff.mp h
  obtain ⟨v2, hv2, h⟩ := h
  refine E_cV1 (M := mX12_likeliest) (As := [.int x1]) 11 rfl dX12_likeliest_8 shc_149 ck_X12_292 cv_X12_noRoom rfl (by decide) (Nat.le_of_ble_eq_true rfl) (C_X12_noRoom (g := g) hv2) rfl ?_
  refine E_iconst (M := mX12_likeliest) (v := 1) 12 rfl dX12_likeliest_11 (by decide) ?_
  replace h := Option.bind_eq_some_iff.mp h
  obtain ⟨w3, hw3, h⟩ := h
  refine E_cV1 (M := mX12_likeliest) (As := [.int (bI v2), .int 1]) 15 rfl dX12_likeliest_12 shc_149 ck_X12_245 cv_X12_throwsIf rfl (by decide) (Nat.le_of_ble_eq_true rfl) (C_X12_throwsIf (g := g) hw3) rfl ?_
  refine E_if_neB (M := mX12_likeliest) 41 18 (by decide) rfl dX12_likeliest_15 (fun c4 => ?_) (fun c4 => ?_)
  · rw [if_pos c4] at h
    refine E_sub (M := mX12_likeliest) (lv' := []) [] rfl ?_
    exact S_X12_likeliest_41 w3.2.1 w3.2.2 _ h
  · rw [if_neg (by rw [c4]; decide)] at h
    refine E_aload_n (M := mX12_likeliest) 19 rfl dX12_likeliest_18 rfl 0 rfl ?_
    refine E_iload_n (M := mX12_likeliest) 20 rfl dX12_likeliest_19 rfl 2 rfl ?_
    refine E_iconst (M := mX12_likeliest) (v := 0) 21 rfl dX12_likeliest_20 (by decide) ?_
    refine E_bipush (M := mX12_likeliest) (v := 99) 23 rfl dX12_likeliest_21 (by decide) ?_
    replace h := Option.bind_eq_some_iff.mp h
    obtain ⟨v5, hv5, h⟩ := h
    refine E_cS1 (M := mX12_likeliest) (As := [.int x2, .int 0, .int 99]) 26 rfl dX12_likeliest_23 ck_X12_60 ss_X12_in rfl (by decide) (Nat.le_of_ble_eq_true rfl) (C_X12_in (g := g) hv5) rfl ?_
    refine E_if_neB (M := mX12_likeliest) 33 29 (by decide) rfl dX12_likeliest_26 (fun c6 => ?_) (fun c6 => ?_)
    · rw [if_pos c6] at h
      refine E_iconst (M := mX12_likeliest) (v := 0) 34 rfl dX12_likeliest_33 (by decide) ?_
      refine E_sub (M := mX12_likeliest) (lv' := [(0, .ref 149), (1, .int x1), (2, .int x2)]) [0, 1, 2] rfl ?_
      exact S_X12_likeliest_34 x1 x2 false w3.2.1 w3.2.2 _ h
    · rw [if_neg (by rw [c6]; decide)] at h
      refine E_iconst (M := mX12_likeliest) (v := 1) 30 rfl dX12_likeliest_29 (by decide) ?_
      refine E_goto (M := mX12_likeliest) 34 (by decide) dX12_likeliest_30 ?_
      refine E_sub (M := mX12_likeliest) (lv' := [(0, .ref 149), (1, .int x1), (2, .int x2)]) [0, 1, 2] rfl ?_
      exact S_X12_likeliest_34 x1 x2 true w3.2.1 w3.2.2 _ h
theorem C_X12_likeliest {g : Gx} {x1 : Int32} {x2 : Int32} {I : MI} {L : ML} {res : Int32 × MI × ML} (h : f_X12_likeliest x1 x2 I L = some res) : Ent g 7 0 mX12_likeliest [.ref 149, .int x1, .int x2] (I, L) (.inl (some (.int res.1))) (res.2.1, res.2.2) := Ent_of (by decide +kernel) (Nat.le_of_ble_eq_true rfl) (S_X12_likeliest x1 x2 I L _ h)
def f_X12_winterOf_64 (x2 : Int32) (y0 : Int32) (I : MI) (L : ML) : Option (Int64) := some (y0.toInt64 * x2.toInt64)
set_option maxRecDepth 100000 in
theorem S_X12_winterOf_64 {g : Gx} (x2 : Int32) (y0 : Int32) (I : MI) (L : ML) (res : Int64) (h : f_X12_winterOf_64 x2 y0 I L = some res) : E g 5 0 mX12_winterOf 64 [(2, .int x2)] [.int y0] (I, L) (.inl (some (.long res))) (I, L) := by
  unfold f_X12_winterOf_64 at h
  refine E_istore (M := mX12_winterOf) (lv' := [(4, .int y0), (2, .int x2)]) 66 rfl dX12_winterOf_64 (Nat.le_of_ble_eq_true rfl) rfl ?_
  refine E_iload (M := mX12_winterOf) 68 rfl dX12_winterOf_66 0 rfl ?_
  refine E_i2l (M := mX12_winterOf) 69 rfl dX12_winterOf_68 ?_
  refine E_iload_n (M := mX12_winterOf) 70 rfl dX12_winterOf_69 rfl 1 rfl ?_
  refine E_i2l (M := mX12_winterOf) 71 rfl dX12_winterOf_70 ?_
  refine E_lmul (M := mX12_winterOf) 72 rfl dX12_winterOf_71 ?_
  cases h
  exact E_lret (M := mX12_winterOf) rfl dX12_winterOf_72
def f_X12_winterOf (x1 : Int32) (x2 : Int32) (I : MI) (L : ML) : Option (Int64) := Option.bind (f_X12_of x1 0 I L) fun v1 => if v1 = 0 then (Option.bind (f_X12_of x1 6 I L) fun v7 => Option.bind (f_J6_bitCount_0f7a4 v7 I L) fun v8 => f_X12_winterOf_64 x2 (100 * v8) I L) else (if v1 = 1 then (Option.bind (ldI I 150 2143 8) fun v6 => f_X12_winterOf_64 x2 (24 * v6) I L) else (if v1 = 2 then (Option.bind (f_X12_of x1 6 I L) fun v5 => f_X12_winterOf_64 x2 (24 * v5) I L) else (f_X12_winterOf_64 x2 0 I L)))
set_option maxRecDepth 100000 in
theorem S_X12_winterOf {g : Gx} (x1 : Int32) (x2 : Int32) (I : MI) (L : ML) (res : Int64) (h : f_X12_winterOf x1 x2 I L = some res) : E g 5 0 mX12_winterOf 0 [(0, .ref 149), (1, .int x1), (2, .int x2)] [] (I, L) (.inl (some (.long res))) (I, L) := by
  unfold f_X12_winterOf at h
  refine E_aload_n (M := mX12_winterOf) 1 rfl dX12_winterOf_0 rfl 0 rfl ?_
  refine E_iload_n (M := mX12_winterOf) 2 rfl dX12_winterOf_1 rfl 1 rfl ?_
  refine E_iconst (M := mX12_winterOf) (v := 0) 3 rfl dX12_winterOf_2 (by decide) ?_
  replace h := Option.bind_eq_some_iff.mp h
  obtain ⟨v1, hv1, h⟩ := h
  refine E_cV1 (M := mX12_winterOf) (As := [.int x1, .int 0]) 6 rfl dX12_winterOf_3 shc_149 ck_X12_260 cv_X12_of rfl (by decide) (Nat.le_of_ble_eq_true rfl) (C_X12_of (g := g) hv1) rfl ?_
  refine E_istore_n (M := mX12_winterOf) (lv' := [(3, .int v1), (0, .ref 149), (1, .int x1), (2, .int x2)]) 7 rfl dX12_winterOf_6 rfl (Nat.le_of_ble_eq_true rfl) rfl ?_
  refine E_iload_n (M := mX12_winterOf) 8 rfl dX12_winterOf_7 rfl 0 rfl ?_
  refine E_if_ne (M := mX12_winterOf) 27 11 (by decide) rfl dX12_winterOf_8 (fun c2 => ?_) (fun c2 => ?_)
  · rw [if_neg c2] at h
    refine E_iload_n (M := mX12_winterOf) 28 rfl dX12_winterOf_27 rfl 0 rfl ?_
    refine E_iconst (M := mX12_winterOf) (v := 1) 29 rfl dX12_winterOf_28 (by decide) ?_
    refine E_icmp_ne (M := mX12_winterOf) 45 32 (by decide) rfl dX12_winterOf_29 (fun c3 => ?_) (fun c3 => ?_)
    · rw [if_neg c3] at h
      refine E_iload_n (M := mX12_winterOf) 46 rfl dX12_winterOf_45 rfl 0 rfl ?_
      refine E_iconst (M := mX12_winterOf) (v := 2) 47 rfl dX12_winterOf_46 (by decide) ?_
      refine E_icmp_ne (M := mX12_winterOf) 63 50 (by decide) rfl dX12_winterOf_47 (fun c4 => ?_) (fun c4 => ?_)
      · rw [if_neg c4] at h
        refine E_iconst (M := mX12_winterOf) (v := 0) 64 rfl dX12_winterOf_63 (by decide) ?_
        refine E_sub (M := mX12_winterOf) (lv' := [(2, .int x2)]) [3] rfl ?_
        exact S_X12_winterOf_64 x2 0 I L _ h
      · rw [if_pos c4] at h
        refine E_bipush (M := mX12_winterOf) (v := 24) 52 rfl dX12_winterOf_50 (by decide) ?_
        refine E_aload_n (M := mX12_winterOf) 53 rfl dX12_winterOf_52 rfl 1 rfl ?_
        refine E_iload_n (M := mX12_winterOf) 54 rfl dX12_winterOf_53 rfl 2 rfl ?_
        refine E_bipush (M := mX12_winterOf) (v := 6) 56 rfl dX12_winterOf_54 (by decide) ?_
        replace h := Option.bind_eq_some_iff.mp h
        obtain ⟨v5, hv5, h⟩ := h
        refine E_cV1 (M := mX12_winterOf) (As := [.int x1, .int 6]) 59 rfl dX12_winterOf_56 shc_149 ck_X12_260 cv_X12_of rfl (by decide) (Nat.le_of_ble_eq_true rfl) (C_X12_of (g := g) hv5) rfl ?_
        refine E_imul (M := mX12_winterOf) 60 rfl dX12_winterOf_59 ?_
        refine E_goto (M := mX12_winterOf) 64 (by decide) dX12_winterOf_60 ?_
        refine E_sub (M := mX12_winterOf) (lv' := [(2, .int x2)]) [3] rfl ?_
        exact S_X12_winterOf_64 x2 (24 * v5) I L _ h
    · rw [if_pos c3] at h
      refine E_bipush (M := mX12_winterOf) (v := 24) 34 rfl dX12_winterOf_32 (by decide) ?_
      refine E_aload_n (M := mX12_winterOf) 35 rfl dX12_winterOf_34 rfl 1 rfl ?_
      refine E_gR (M := mX12_winterOf) 150 38 rfl dX12_winterOf_35 shc_149 fl_X12_13 rfl (by decide) (by decide) ?_
      refine E_bipush (M := mX12_winterOf) (v := 8) 40 rfl dX12_winterOf_38 (by decide) ?_
      replace h := Option.bind_eq_some_iff.mp h
      obtain ⟨v6, hv6, h⟩ := h
      refine E_ldI (M := mX12_winterOf) 41 rfl dX12_winterOf_40 shc_150 hv6 ?_
      refine E_imul (M := mX12_winterOf) 42 rfl dX12_winterOf_41 ?_
      refine E_goto (M := mX12_winterOf) 64 (by decide) dX12_winterOf_42 ?_
      refine E_sub (M := mX12_winterOf) (lv' := [(2, .int x2)]) [3] rfl ?_
      exact S_X12_winterOf_64 x2 (24 * v6) I L _ h
  · rw [if_pos c2] at h
    refine E_bipush (M := mX12_winterOf) (v := 100) 13 rfl dX12_winterOf_11 (by decide) ?_
    refine E_aload_n (M := mX12_winterOf) 14 rfl dX12_winterOf_13 rfl 1 rfl ?_
    refine E_iload_n (M := mX12_winterOf) 15 rfl dX12_winterOf_14 rfl 2 rfl ?_
    refine E_bipush (M := mX12_winterOf) (v := 6) 17 rfl dX12_winterOf_15 (by decide) ?_
    replace h := Option.bind_eq_some_iff.mp h
    obtain ⟨v7, hv7, h⟩ := h
    refine E_cV1 (M := mX12_winterOf) (As := [.int x1, .int 6]) 20 rfl dX12_winterOf_17 shc_149 ck_X12_260 cv_X12_of rfl (by decide) (Nat.le_of_ble_eq_true rfl) (C_X12_of (g := g) hv7) rfl ?_
    replace h := Option.bind_eq_some_iff.mp h
    obtain ⟨v8, hv8, h⟩ := h
    refine E_cS1 (M := mX12_winterOf) (As := [.int v7]) 23 rfl dX12_winterOf_20 ck_X12_339 ss_J6_bitCount_0f7a4 rfl (by decide) (Nat.le_of_ble_eq_true rfl) (C_J6_bitCount_0f7a4 (g := g) hv8) rfl ?_
    refine E_imul (M := mX12_winterOf) 24 rfl dX12_winterOf_23 ?_
    refine E_goto (M := mX12_winterOf) 64 (by decide) dX12_winterOf_24 ?_
    refine E_sub (M := mX12_winterOf) (lv' := [(2, .int x2)]) [3] rfl ?_
    exact S_X12_winterOf_64 x2 (100 * v8) I L _ h
theorem C_X12_winterOf {g : Gx} {x1 : Int32} {x2 : Int32} {I : MI} {L : ML} {res : Int64} (h : f_X12_winterOf x1 x2 I L = some res) : Ent g 5 0 mX12_winterOf [.ref 149, .int x1, .int x2] (I, L) (.inl (some (.long res))) (I, L) := Ent_of (by decide +kernel) (Nat.le_of_ble_eq_true rfl) (S_X12_winterOf x1 x2 I L _ h)
def f_X12_dueOf_26 (y0 : Int64) (I : MI) (L : ML) : Option (Int64) := some y0
set_option maxRecDepth 100000 in
theorem S_X12_dueOf_26 {g : Gx} (y0 : Int64) (I : MI) (L : ML) (res : Int64) (h : f_X12_dueOf_26 y0 I L = some res) : E g 8 0 mX12_dueOf 26 [] [.long y0] (I, L) (.inl (some (.long res))) (I, L) := by
  unfold f_X12_dueOf_26 at h
  cases h
  exact E_lret (M := mX12_dueOf) rfl dX12_dueOf_26
def f_X12_dueOf (x1 : Int32) (x2 : Int32) (I : MI) (L : ML) : Option (Int64) := Option.bind (f_X12_isHeard x1 I L) fun v1 => if v1 = true then (Option.bind (f_X12_winterOf x1 x2 I L) fun v3 => Option.bind (f_X12_of x1 4 I L) fun v4 => f_X12_dueOf_26 (v3 * v4.toInt64) I L) else (f_X12_dueOf_26 0 I L)
set_option maxRecDepth 100000 in
theorem S_X12_dueOf {g : Gx} (x1 : Int32) (x2 : Int32) (I : MI) (L : ML) (res : Int64) (h : f_X12_dueOf x1 x2 I L = some res) : E g 8 0 mX12_dueOf 0 [(0, .ref 149), (1, .int x1), (2, .int x2)] [] (I, L) (.inl (some (.long res))) (I, L) := by
  unfold f_X12_dueOf at h
  refine E_aload_n (M := mX12_dueOf) 1 rfl dX12_dueOf_0 rfl 0 rfl ?_
  refine E_iload_n (M := mX12_dueOf) 2 rfl dX12_dueOf_1 rfl 1 rfl ?_
  replace h := Option.bind_eq_some_iff.mp h
  obtain ⟨v1, hv1, h⟩ := h
  refine E_cV1 (M := mX12_dueOf) (As := [.int x1]) 5 rfl dX12_dueOf_2 shc_149 ck_X12_320 cv_X12_isHeard rfl (by decide) (Nat.le_of_ble_eq_true rfl) (C_X12_isHeard (g := g) hv1) rfl ?_
  refine E_if_eqB (M := mX12_dueOf) 25 8 (by decide) rfl dX12_dueOf_5 (fun c2 => ?_) (fun c2 => ?_)
  · rw [if_neg (by rw [c2]; decide)] at h
    refine E_lconst (M := mX12_dueOf) (v := 0) 26 rfl dX12_dueOf_25 (by decide) ?_
    refine E_sub (M := mX12_dueOf) (lv' := []) [] rfl ?_
    exact S_X12_dueOf_26 0 I L _ h
  · rw [if_pos c2] at h
    refine E_aload_n (M := mX12_dueOf) 9 rfl dX12_dueOf_8 rfl 0 rfl ?_
    refine E_iload_n (M := mX12_dueOf) 10 rfl dX12_dueOf_9 rfl 1 rfl ?_
    refine E_iload_n (M := mX12_dueOf) 11 rfl dX12_dueOf_10 rfl 2 rfl ?_
    replace h := Option.bind_eq_some_iff.mp h
    obtain ⟨v3, hv3, h⟩ := h
    refine E_cV1 (M := mX12_dueOf) (As := [.int x1, .int x2]) 14 rfl dX12_dueOf_11 shc_149 ck_X12_344 cv_X12_winterOf rfl (by decide) (Nat.le_of_ble_eq_true rfl) (C_X12_winterOf (g := g) hv3) rfl ?_
    refine E_aload_n (M := mX12_dueOf) 15 rfl dX12_dueOf_14 rfl 0 rfl ?_
    refine E_iload_n (M := mX12_dueOf) 16 rfl dX12_dueOf_15 rfl 1 rfl ?_
    refine E_iconst (M := mX12_dueOf) (v := 4) 17 rfl dX12_dueOf_16 (by decide) ?_
    replace h := Option.bind_eq_some_iff.mp h
    obtain ⟨v4, hv4, h⟩ := h
    refine E_cV1 (M := mX12_dueOf) (As := [.int x1, .int 4]) 20 rfl dX12_dueOf_17 shc_149 ck_X12_260 cv_X12_of rfl (by decide) (Nat.le_of_ble_eq_true rfl) (C_X12_of (g := g) hv4) rfl ?_
    refine E_i2l (M := mX12_dueOf) 21 rfl dX12_dueOf_20 ?_
    refine E_lmul (M := mX12_dueOf) 22 rfl dX12_dueOf_21 ?_
    refine E_goto (M := mX12_dueOf) 26 (by decide) dX12_dueOf_22 ?_
    refine E_sub (M := mX12_dueOf) (lv' := []) [] rfl ?_
    exact S_X12_dueOf_26 (v3 * v4.toInt64) I L _ h
theorem C_X12_dueOf {g : Gx} {x1 : Int32} {x2 : Int32} {I : MI} {L : ML} {res : Int64} (h : f_X12_dueOf x1 x2 I L = some res) : Ent g 8 0 mX12_dueOf [.ref 149, .int x1, .int x2] (I, L) (.inl (some (.long res))) (I, L) := Ent_of (by decide +kernel) (Nat.le_of_ble_eq_true rfl) (S_X12_dueOf x1 x2 I L _ h)
def f_X12_noDays_16 (y0 : Bool) (I : MI) (L : ML) : Option (Bool) := some y0
set_option maxRecDepth 100000 in
theorem S_X12_noDays_16 {g : Gx} (y0 : Bool) (I : MI) (L : ML) (res : Bool) (h : f_X12_noDays_16 y0 I L = some res) : E g 2 0 mX12_noDays 16 [] [.int (bI y0)] (I, L) (.inl (some (.int (bI res)))) (I, L) := by
  unfold f_X12_noDays_16 at h
  cases h
  exact E_zret (M := mX12_noDays) (x := y0) rfl dX12_noDays_16
def f_X12_noDays (x0 : Int32) (I : MI) (L : ML) : Option (Bool) := Option.bind (f_X12_in x0 1 200 I L) fun v1 => if v1 = true then (f_X12_noDays_16 false I L) else (f_X12_noDays_16 true I L)
set_option maxRecDepth 100000 in
theorem S_X12_noDays {g : Gx} (x0 : Int32) (I : MI) (L : ML) (res : Bool) (h : f_X12_noDays x0 I L = some res) : E g 2 0 mX12_noDays 0 [(0, .int x0)] [] (I, L) (.inl (some (.int (bI res)))) (I, L) := by
  unfold f_X12_noDays at h
  refine E_iload_n (M := mX12_noDays) 1 rfl dX12_noDays_0 rfl 0 rfl ?_
  refine E_iconst (M := mX12_noDays) (v := 1) 2 rfl dX12_noDays_1 (by decide) ?_
  refine E_sipush (M := mX12_noDays) (v := 200) 5 rfl dX12_noDays_2 (by decide) ?_
  replace h := Option.bind_eq_some_iff.mp h
  obtain ⟨v1, hv1, h⟩ := h
  refine E_cS1 (M := mX12_noDays) (As := [.int x0, .int 1, .int 200]) 8 rfl dX12_noDays_5 ck_X12_60 ss_X12_in rfl (by decide) (Nat.le_of_ble_eq_true rfl) (C_X12_in (g := g) hv1) rfl ?_
  refine E_if_neB (M := mX12_noDays) 15 11 (by decide) rfl dX12_noDays_8 (fun c2 => ?_) (fun c2 => ?_)
  · rw [if_pos c2] at h
    refine E_iconst (M := mX12_noDays) (v := 0) 16 rfl dX12_noDays_15 (by decide) ?_
    refine E_sub (M := mX12_noDays) (lv' := []) [] rfl ?_
    exact S_X12_noDays_16 false I L _ h
  · rw [if_neg (by rw [c2]; decide)] at h
    refine E_iconst (M := mX12_noDays) (v := 1) 12 rfl dX12_noDays_11 (by decide) ?_
    refine E_goto (M := mX12_noDays) 16 (by decide) dX12_noDays_12 ?_
    refine E_sub (M := mX12_noDays) (lv' := []) [] rfl ?_
    exact S_X12_noDays_16 true I L _ h
theorem C_X12_noDays {g : Gx} {x0 : Int32} {I : MI} {L : ML} {res : Bool} (h : f_X12_noDays x0 I L = some res) : Ent g 2 0 mX12_noDays [.int x0] (I, L) (.inl (some (.int (bI res)))) (I, L) := Ent_of (by decide +kernel) (Nat.le_of_ble_eq_true rfl) (S_X12_noDays x0 I L _ h)
def f_X12_due_30 (I : MI) (L : ML) : Option (Int64 × MI × ML) := some (0, I, L)
set_option maxRecDepth 100000 in
theorem S_X12_due_30 {g : Gx} (I : MI) (L : ML) (res : Int64 × MI × ML) (h : f_X12_due_30 I L = some res) : E g 9 0 mX12_due 30 [] [] (I, L) (.inl (some (.long res.1))) (res.2.1, res.2.2) := by
  unfold f_X12_due_30 at h
  refine E_lconst (M := mX12_due) (v := 0) 31 rfl dX12_due_30 (by decide) ?_
  cases h
  exact E_lret (M := mX12_due) rfl dX12_due_31
def f_X12_due (x1 : Int32) (x2 : Int32) (I : MI) (L : ML) : Option (Int64 × MI × ML) := Option.bind (pfI I 149 0 0) fun I1 => Option.bind (f_X12_noNoise x1 I1 L) fun v2 => Option.bind (f_X12_throwsIf v2 1 I1 L) fun w3 => if w3.1 = true then (f_X12_due_30 w3.2.1 w3.2.2) else (Option.bind (f_X12_noDays x2 w3.2.1 w3.2.2) fun v5 => Option.bind (f_X12_throwsIf v5 2 w3.2.1 w3.2.2) fun w6 => if w6.1 = true then (f_X12_due_30 w6.2.1 w6.2.2) else (Option.bind (f_X12_spreads w6.2.1 w6.2.2) fun w8 => Option.bind (f_X12_dueOf x1 x2 w8.1 w8.2) fun v9 => some (v9, w8.1, w8.2)))
set_option maxRecDepth 100000 in
theorem S_X12_due {g : Gx} (x1 : Int32) (x2 : Int32) (I : MI) (L : ML) (res : Int64 × MI × ML) (h : f_X12_due x1 x2 I L = some res) : E g 9 0 mX12_due 0 [(0, .ref 149), (1, .int x1), (2, .int x2)] [] (I, L) (.inl (some (.long res.1))) (res.2.1, res.2.2) := by
  unfold f_X12_due at h
  refine E_aload_n (M := mX12_due) 1 rfl dX12_due_0 rfl 0 rfl ?_
  refine E_iconst (M := mX12_due) (v := 0) 2 rfl dX12_due_1 (by decide) ?_
  replace h := Option.bind_eq_some_iff.mp h
  obtain ⟨I1, hI1, h⟩ := h
  refine E_pfI (M := mX12_due) 5 rfl dX12_due_2 shc_149 fl_X12_3 rfl hI1 ?_
  refine E_aload_n (M := mX12_due) 6 rfl dX12_due_5 rfl 0 rfl ?_
  refine E_aload_n (M := mX12_due) 7 rfl dX12_due_6 rfl 0 rfl ?_
  refine E_iload_n (M := mX12_due) 8 rfl dX12_due_7 rfl 1 rfl ?_
  replace h := Option.bind_eq_some_iff.mp h
  obtain ⟨v2, hv2, h⟩ := h
  refine E_cV1 (M := mX12_due) (As := [.int x1]) 11 rfl dX12_due_8 shc_149 ck_X12_304 cv_X12_noNoise rfl (by decide) (Nat.le_of_ble_eq_true rfl) (C_X12_noNoise (g := g) hv2) rfl ?_
  refine E_iconst (M := mX12_due) (v := 1) 12 rfl dX12_due_11 (by decide) ?_
  replace h := Option.bind_eq_some_iff.mp h
  obtain ⟨w3, hw3, h⟩ := h
  refine E_cV1 (M := mX12_due) (As := [.int (bI v2), .int 1]) 15 rfl dX12_due_12 shc_149 ck_X12_245 cv_X12_throwsIf rfl (by decide) (Nat.le_of_ble_eq_true rfl) (C_X12_throwsIf (g := g) hw3) rfl ?_
  refine E_if_neB (M := mX12_due) 30 18 (by decide) rfl dX12_due_15 (fun c4 => ?_) (fun c4 => ?_)
  · rw [if_pos c4] at h
    refine E_sub (M := mX12_due) (lv' := []) [] rfl ?_
    exact S_X12_due_30 w3.2.1 w3.2.2 _ h
  · rw [if_neg (by rw [c4]; decide)] at h
    refine E_aload_n (M := mX12_due) 19 rfl dX12_due_18 rfl 0 rfl ?_
    refine E_iload_n (M := mX12_due) 20 rfl dX12_due_19 rfl 2 rfl ?_
    replace h := Option.bind_eq_some_iff.mp h
    obtain ⟨v5, hv5, h⟩ := h
    refine E_cS1 (M := mX12_due) (As := [.int x2]) 23 rfl dX12_due_20 ck_X12_348 ss_X12_noDays rfl (by decide) (Nat.le_of_ble_eq_true rfl) (C_X12_noDays (g := g) hv5) rfl ?_
    refine E_iconst (M := mX12_due) (v := 2) 24 rfl dX12_due_23 (by decide) ?_
    replace h := Option.bind_eq_some_iff.mp h
    obtain ⟨w6, hw6, h⟩ := h
    refine E_cV1 (M := mX12_due) (As := [.int (bI v5), .int 2]) 27 rfl dX12_due_24 shc_149 ck_X12_245 cv_X12_throwsIf rfl (by decide) (Nat.le_of_ble_eq_true rfl) (C_X12_throwsIf (g := g) hw6) rfl ?_
    refine E_if_eqB (M := mX12_due) 32 30 (by decide) rfl dX12_due_27 (fun c7 => ?_) (fun c7 => ?_)
    · rw [if_neg (by rw [c7]; decide)] at h
      refine E_aload_n (M := mX12_due) 33 rfl dX12_due_32 rfl 0 rfl ?_
      replace h := Option.bind_eq_some_iff.mp h
      obtain ⟨w8, hw8, h⟩ := h
      refine E_cV0 (M := mX12_due) (As := []) 36 rfl dX12_due_33 shc_149 ck_X12_298 cv_X12_spreads rfl (by decide) (Nat.le_of_ble_eq_true rfl) (C_X12_spreads (g := g) hw8) rfl ?_
      refine E_aload_n (M := mX12_due) 37 rfl dX12_due_36 rfl 0 rfl ?_
      refine E_iload_n (M := mX12_due) 38 rfl dX12_due_37 rfl 1 rfl ?_
      refine E_iload_n (M := mX12_due) 39 rfl dX12_due_38 rfl 2 rfl ?_
      replace h := Option.bind_eq_some_iff.mp h
      obtain ⟨v9, hv9, h⟩ := h
      refine E_cV1 (M := mX12_due) (As := [.int x1, .int x2]) 42 rfl dX12_due_39 shc_149 ck_X12_351 cv_X12_dueOf rfl (by decide) (Nat.le_of_ble_eq_true rfl) (C_X12_dueOf (g := g) hv9) rfl ?_
      cases h
      exact E_lret (M := mX12_due) rfl dX12_due_42
    · rw [if_pos c7] at h
      refine E_sub (M := mX12_due) (lv' := []) [] rfl ?_
      exact S_X12_due_30 w6.2.1 w6.2.2 _ h
theorem C_X12_due {g : Gx} {x1 : Int32} {x2 : Int32} {I : MI} {L : ML} {res : Int64 × MI × ML} (h : f_X12_due x1 x2 I L = some res) : Ent g 9 0 mX12_due [.ref 149, .int x1, .int x2] (I, L) (.inl (some (.long res.1))) (res.2.1, res.2.2) := Ent_of (by decide +kernel) (Nat.le_of_ble_eq_true rfl) (S_X12_due x1 x2 I L _ h)
