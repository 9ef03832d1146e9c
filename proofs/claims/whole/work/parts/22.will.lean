def f_X9_copyFrom (x0 : Nat) (x1 : Nat) (I : MI) (L : ML) : Option (MI × ML) := Option.bind (cyI I (x1 + 6) 12 (x0 + 6) 12 12) fun I1 => Option.bind (cyI I1 (x1 + 7) 12 (x0 + 7) 12 12) fun I2 => Option.bind (cyI I2 (x1 + 8) 12 (x0 + 8) 12 12) fun I3 => Option.bind (cyI I3 (x1 + 9) 400 (x0 + 9) 400 400) fun I4 => Option.bind (pfI I4 (x0 + 5) 4 (I4 (x1 + 5) 4)) fun I5 => Option.bind (pfI I5 (x0 + 5) 5 (I5 (x1 + 5) 5)) fun I6 => some (I6, L)
set_option maxRecDepth 100000 in
theorem S_X9_copyFrom {g : Gx} (x0 : Nat) (x1 : Nat) (hx0 : isH x0) (hx1 : isH x1) (I : MI) (L : ML) (res : MI × ML) (h : f_X9_copyFrom x0 x1 I L = some res) : E g 5 0 mX9_copyFrom 0 [(0, .ref (x0 + 5)), (1, .ref (x1 + 5))] [] (I, L) (.inl none) (res.1, res.2) := by
  unfold f_X9_copyFrom at h
  refine E_aload_n (M := mX9_copyFrom) 1 rfl dX9_copyFrom_0 rfl 1 rfl ?_
  refine E_gR (M := mX9_copyFrom) (x1 + 6) 4 rfl dX9_copyFrom_1 (sh_H5 hx1) fl_X9_9 rfl (rt_W0 hx1) (H_lt hx1 6 (by decide)) ?_
  refine E_iconst (M := mX9_copyFrom) (v := 0) 5 rfl dX9_copyFrom_4 (by decide) ?_
  refine E_aload_n (M := mX9_copyFrom) 6 rfl dX9_copyFrom_5 rfl 0 rfl ?_
  refine E_gR (M := mX9_copyFrom) (x0 + 6) 9 rfl dX9_copyFrom_6 (sh_H5 hx0) fl_X9_9 rfl (rt_W0 hx0) (H_lt hx0 6 (by decide)) ?_
  refine E_iconst (M := mX9_copyFrom) (v := 0) 10 rfl dX9_copyFrom_9 (by decide) ?_
  refine E_bipush (M := mX9_copyFrom) (v := 12) 12 rfl dX9_copyFrom_10 (by decide) ?_
  replace h := Option.bind_eq_some_iff.mp h
  obtain ⟨I1, hI1, h⟩ := h
  refine E_cyI (M := mX9_copyFrom) 15 rfl dX9_copyFrom_12 ac_X9_34 (sh_H6 hx1) (sh_H6 hx0) (by decide) (Nat.le_of_ble_eq_true rfl) hI1 ?_
  refine E_aload_n (M := mX9_copyFrom) 16 rfl dX9_copyFrom_15 rfl 1 rfl ?_
  refine E_gR (M := mX9_copyFrom) (x1 + 7) 19 rfl dX9_copyFrom_16 (sh_H5 hx1) fl_X9_15 rfl (rt_W1 hx1) (H_lt hx1 7 (by decide)) ?_
  refine E_iconst (M := mX9_copyFrom) (v := 0) 20 rfl dX9_copyFrom_19 (by decide) ?_
  refine E_aload_n (M := mX9_copyFrom) 21 rfl dX9_copyFrom_20 rfl 0 rfl ?_
  refine E_gR (M := mX9_copyFrom) (x0 + 7) 24 rfl dX9_copyFrom_21 (sh_H5 hx0) fl_X9_15 rfl (rt_W1 hx0) (H_lt hx0 7 (by decide)) ?_
  refine E_iconst (M := mX9_copyFrom) (v := 0) 25 rfl dX9_copyFrom_24 (by decide) ?_
  refine E_bipush (M := mX9_copyFrom) (v := 12) 27 rfl dX9_copyFrom_25 (by decide) ?_
  replace h := Option.bind_eq_some_iff.mp h
  obtain ⟨I2, hI2, h⟩ := h
  refine E_cyI (M := mX9_copyFrom) 30 rfl dX9_copyFrom_27 ac_X9_34 (sh_H7 hx1) (sh_H7 hx0) (by decide) (Nat.le_of_ble_eq_true rfl) hI2 ?_
  refine E_aload_n (M := mX9_copyFrom) 31 rfl dX9_copyFrom_30 rfl 1 rfl ?_
  refine E_gR (M := mX9_copyFrom) (x1 + 8) 34 rfl dX9_copyFrom_31 (sh_H5 hx1) fl_X9_18 rfl (rt_W2 hx1) (H_lt hx1 8 (by decide)) ?_
  refine E_iconst (M := mX9_copyFrom) (v := 0) 35 rfl dX9_copyFrom_34 (by decide) ?_
  refine E_aload_n (M := mX9_copyFrom) 36 rfl dX9_copyFrom_35 rfl 0 rfl ?_
  refine E_gR (M := mX9_copyFrom) (x0 + 8) 39 rfl dX9_copyFrom_36 (sh_H5 hx0) fl_X9_18 rfl (rt_W2 hx0) (H_lt hx0 8 (by decide)) ?_
  refine E_iconst (M := mX9_copyFrom) (v := 0) 40 rfl dX9_copyFrom_39 (by decide) ?_
  refine E_bipush (M := mX9_copyFrom) (v := 12) 42 rfl dX9_copyFrom_40 (by decide) ?_
  replace h := Option.bind_eq_some_iff.mp h
  obtain ⟨I3, hI3, h⟩ := h
  refine E_cyI (M := mX9_copyFrom) 45 rfl dX9_copyFrom_42 ac_X9_34 (sh_H8 hx1) (sh_H8 hx0) (by decide) (Nat.le_of_ble_eq_true rfl) hI3 ?_
  refine E_aload_n (M := mX9_copyFrom) 46 rfl dX9_copyFrom_45 rfl 1 rfl ?_
  refine E_gR (M := mX9_copyFrom) (x1 + 9) 49 rfl dX9_copyFrom_46 (sh_H5 hx1) fl_X9_21 rfl (rt_W3 hx1) (H_lt hx1 9 (by decide)) ?_
  refine E_iconst (M := mX9_copyFrom) (v := 0) 50 rfl dX9_copyFrom_49 (by decide) ?_
  refine E_aload_n (M := mX9_copyFrom) 51 rfl dX9_copyFrom_50 rfl 0 rfl ?_
  refine E_gR (M := mX9_copyFrom) (x0 + 9) 54 rfl dX9_copyFrom_51 (sh_H5 hx0) fl_X9_21 rfl (rt_W3 hx0) (H_lt hx0 9 (by decide)) ?_
  refine E_iconst (M := mX9_copyFrom) (v := 0) 55 rfl dX9_copyFrom_54 (by decide) ?_
  refine E_sipush (M := mX9_copyFrom) (v := 400) 58 rfl dX9_copyFrom_55 (by decide) ?_
  replace h := Option.bind_eq_some_iff.mp h
  obtain ⟨I4, hI4, h⟩ := h
  refine E_cyI (M := mX9_copyFrom) 61 rfl dX9_copyFrom_58 ac_X9_34 (sh_H9 hx1) (sh_H9 hx0) (by decide) (Nat.le_of_ble_eq_true rfl) hI4 ?_
  refine E_aload_n (M := mX9_copyFrom) 62 rfl dX9_copyFrom_61 rfl 0 rfl ?_
  refine E_aload_n (M := mX9_copyFrom) 63 rfl dX9_copyFrom_62 rfl 1 rfl ?_
  refine E_gI (M := mX9_copyFrom) 66 rfl dX9_copyFrom_63 (sh_H5 hx1) fl_X9_24 rfl ?_
  replace h := Option.bind_eq_some_iff.mp h
  obtain ⟨I5, hI5, h⟩ := h
  refine E_pfI (M := mX9_copyFrom) 69 rfl dX9_copyFrom_66 (sh_H5 hx0) fl_X9_24 rfl hI5 ?_
  refine E_aload_n (M := mX9_copyFrom) 70 rfl dX9_copyFrom_69 rfl 0 rfl ?_
  refine E_aload_n (M := mX9_copyFrom) 71 rfl dX9_copyFrom_70 rfl 1 rfl ?_
  refine E_gI (M := mX9_copyFrom) 74 rfl dX9_copyFrom_71 (sh_H5 hx1) fl_X9_28 rfl ?_
  replace h := Option.bind_eq_some_iff.mp h
  obtain ⟨I6, hI6, h⟩ := h
  refine E_pfI (M := mX9_copyFrom) 77 rfl dX9_copyFrom_74 (sh_H5 hx0) fl_X9_28 rfl hI6 ?_
  cases h
  exact E_vret (M := mX9_copyFrom) rfl dX9_copyFrom_77
theorem C_X9_copyFrom {g : Gx} {x0 : Nat} {x1 : Nat} (hx0 : isH x0) (hx1 : isH x1) {I : MI} {L : ML} {res : MI × ML} (h : f_X9_copyFrom x0 x1 I L = some res) : Ent g 5 0 mX9_copyFrom [.ref (x0 + 5), .ref (x1 + 5)] (I, L) (.inl none) (res.1, res.2) := Ent_of (by decide +kernel) (Nat.le_of_ble_eq_true rfl) (S_X9_copyFrom x0 x1 hx0 hx1 I L _ h)
def f_X9_fact_140 (y0 : Int32) (I : MI) (L : ML) : Option (Int32) := some y0
set_option maxRecDepth 100000 in
theorem S_X9_fact_140 {g : Gx} (y0 : Int32) (I : MI) (L : ML) (res : Int32) (h : f_X9_fact_140 y0 I L = some res) : E g 1 0 mX9_fact 140 [] [.int y0] (I, L) (.inl (some (.int res))) (I, L) := by
  unfold f_X9_fact_140 at h
  cases h
  exact E_iret (M := mX9_fact) rfl dX9_fact_140
def f_X9_fact_78 (y0 : Bool) (I : MI) (L : ML) : Option (Int32) := some (bI y0)
set_option maxRecDepth 100000 in
theorem S_X9_fact_78 {g : Gx} (y0 : Bool) (I : MI) (L : ML) (res : Int32) (h : f_X9_fact_78 y0 I L = some res) : E g 1 0 mX9_fact 78 [] [.int (bI y0)] (I, L) (.inl (some (.int res))) (I, L) := by
  unfold f_X9_fact_78 at h
  cases h
  exact E_iret (M := mX9_fact) rfl dX9_fact_78
def f_X9_fact_68 (y0 : Bool) (I : MI) (L : ML) : Option (Int32) := some (bI y0)
set_option maxRecDepth 100000 in
theorem S_X9_fact_68 {g : Gx} (y0 : Bool) (I : MI) (L : ML) (res : Int32) (h : f_X9_fact_68 y0 I L = some res) : E g 1 0 mX9_fact 68 [] [.int (bI y0)] (I, L) (.inl (some (.int res))) (I, L) := by
  unfold f_X9_fact_68 at h
  cases h
  exact E_iret (M := mX9_fact) rfl dX9_fact_68
def f_X9_fact (x0 : Int32) (x1 : Nat) (x2 : Int32) (x3 : Bool) (I : MI) (L : ML) : Option (Int32) := Option.bind (ldR (x1 + 33) 12 x2) fun v1 => if x0 = 4 then (if (I x1 14 != 0) = true then (f_X9_fact_68 true I L) else (f_X9_fact_68 false I L)) else if x0 = 5 then (if x3 = true then (f_X9_fact_78 true I L) else (f_X9_fact_78 false I L)) else if x0 = 6 then (some (I v1 3)) else if x0 = 7 then (some (I v1 4)) else if x0 = 8 then (some ((I x1 12) - (I x1 12) / 24 * 24)) else if x0 = 9 then (some (I v1 2)) else if x0 = 10 then (some x2) else if x0 = 11 then (some (I v1 6)) else (if x0 < 18 then (if (I v1 0) = x0 then (f_X9_fact_140 1 I L) else (f_X9_fact_140 0 I L)) else (f_X9_fact_140 (x0 - 18) I L))
set_option maxRecDepth 100000 in
theorem S_X9_fact {g : Gx} (x0 : Int32) (x1 : Nat) (x2 : Int32) (x3 : Bool) (hx1 : isH x1) (I : MI) (L : ML) (res : Int32) (h : f_X9_fact x0 x1 x2 x3 I L = some res) : E g 1 0 mX9_fact 0 [(0, .int x0), (1, .ref x1), (2, .int x2), (3, .int (bI x3))] [] (I, L) (.inl (some (.int res))) (I, L) := by
  unfold f_X9_fact at h
  refine E_aload_n (M := mX9_fact) 1 rfl dX9_fact_0 rfl 1 rfl ?_
  refine E_gR (M := mX9_fact) (x1 + 4) 4 rfl dX9_fact_1 (sh_H hx1) fl_X9_52 rfl (rt_H7 hx1) (H_lt hx1 4 (by decide)) ?_
  refine E_iload_n (M := mX9_fact) 5 rfl dX9_fact_4 rfl 2 rfl ?_
  replace h := Option.bind_eq_some_iff.mp h
  obtain ⟨v1, hv1, h⟩ := h
  refine E_ldN (M := mX9_fact) hx1 6 rfl dX9_fact_5 hv1 ?_
  refine E_astore (M := mX9_fact) (lv' := [(4, .ref v1), (0, .int x0), (1, .ref x1), (2, .int x2), (3, .int (bI x3))]) 8 rfl dX9_fact_6 (Nat.le_of_ble_eq_true rfl) rfl ?_
  refine E_iload_n (M := mX9_fact) 9 rfl dX9_fact_8 rfl 1 rfl ?_
  by_cases c2 : x0 = 4
  · rw [if_pos c2] at h
    refine E_tsIn (M := mX9_fact) (off := 47) 4 c2 56 (by decide) (by decide) (by decide) rfl dX9_fact_9 ?_
    refine E_aload_n (M := mX9_fact) 57 rfl dX9_fact_56 rfl 2 rfl ?_
    refine E_gB (M := mX9_fact) 60 rfl dX9_fact_57 (sh_H hx1) fl_X9_58 rfl ?_
    refine E_if_eqB (M := mX9_fact) 67 63 (by decide) rfl dX9_fact_60 (fun c3 => ?_) (fun c3 => ?_)
    · rw [if_neg (by rw [c3]; decide)] at h
      refine E_iconst (M := mX9_fact) (v := 0) 68 rfl dX9_fact_67 (by decide) ?_
      refine E_sub (M := mX9_fact) (lv' := []) [] rfl ?_
      exact S_X9_fact_68 false I L _ h
    · rw [if_pos c3] at h
      refine E_iconst (M := mX9_fact) (v := 1) 64 rfl dX9_fact_63 (by decide) ?_
      refine E_goto (M := mX9_fact) 68 (by decide) dX9_fact_64 ?_
      refine E_sub (M := mX9_fact) (lv' := []) [] rfl ?_
      exact S_X9_fact_68 true I L _ h
  rw [if_neg c2] at h
  by_cases c4 : x0 = 5
  · rw [if_pos c4] at h
    refine E_tsIn (M := mX9_fact) (off := 60) 5 c4 69 (by decide) (by decide) (by decide) rfl dX9_fact_9 ?_
    refine E_iload_n (M := mX9_fact) 70 rfl dX9_fact_69 rfl 4 rfl ?_
    refine E_if_eqB (M := mX9_fact) 77 73 (by decide) rfl dX9_fact_70 (fun c5 => ?_) (fun c5 => ?_)
    · rw [if_neg (by rw [c5]; decide)] at h
      refine E_iconst (M := mX9_fact) (v := 0) 78 rfl dX9_fact_77 (by decide) ?_
      refine E_sub (M := mX9_fact) (lv' := []) [] rfl ?_
      exact S_X9_fact_78 false I L _ h
    · rw [if_pos c5] at h
      refine E_iconst (M := mX9_fact) (v := 1) 74 rfl dX9_fact_73 (by decide) ?_
      refine E_goto (M := mX9_fact) 78 (by decide) dX9_fact_74 ?_
      refine E_sub (M := mX9_fact) (lv' := []) [] rfl ?_
      exact S_X9_fact_78 true I L _ h
  rw [if_neg c4] at h
  by_cases c6 : x0 = 6
  · rw [if_pos c6] at h
    refine E_tsIn (M := mX9_fact) (off := 70) 6 c6 79 (by decide) (by decide) (by decide) rfl dX9_fact_9 ?_
    refine E_aload (M := mX9_fact) 81 rfl dX9_fact_79 0 rfl ?_
    refine E_gI (M := mX9_fact) 84 rfl dX9_fact_81 (sh_N (isN_ld hx1 hv1)) fl_X9_62 rfl ?_
    cases h
    exact E_iret (M := mX9_fact) rfl dX9_fact_84
  rw [if_neg c6] at h
  by_cases c7 : x0 = 7
  · rw [if_pos c7] at h
    refine E_tsIn (M := mX9_fact) (off := 76) 7 c7 85 (by decide) (by decide) (by decide) rfl dX9_fact_9 ?_
    refine E_aload (M := mX9_fact) 87 rfl dX9_fact_85 0 rfl ?_
    refine E_gI (M := mX9_fact) 90 rfl dX9_fact_87 (sh_N (isN_ld hx1 hv1)) fl_X9_67 rfl ?_
    cases h
    exact E_iret (M := mX9_fact) rfl dX9_fact_90
  rw [if_neg c7] at h
  by_cases c8 : x0 = 8
  · rw [if_pos c8] at h
    refine E_tsIn (M := mX9_fact) (off := 82) 8 c8 91 (by decide) (by decide) (by decide) rfl dX9_fact_9 ?_
    refine E_aload_n (M := mX9_fact) 92 rfl dX9_fact_91 rfl 2 rfl ?_
    refine E_gI (M := mX9_fact) 95 rfl dX9_fact_92 (sh_H hx1) fl_X9_70 rfl ?_
    refine E_bipush (M := mX9_fact) (v := 24) 97 rfl dX9_fact_95 (by decide) ?_
    refine E_irem (M := mX9_fact) 98 rfl dX9_fact_97 (by decide) ?_
    cases h
    exact E_iret (M := mX9_fact) rfl dX9_fact_98
  rw [if_neg c8] at h
  by_cases c10 : x0 = 9
  · rw [if_pos c10] at h
    refine E_tsIn (M := mX9_fact) (off := 90) 9 c10 99 (by decide) (by decide) (by decide) rfl dX9_fact_9 ?_
    refine E_aload (M := mX9_fact) 101 rfl dX9_fact_99 0 rfl ?_
    refine E_gI (M := mX9_fact) 104 rfl dX9_fact_101 (sh_N (isN_ld hx1 hv1)) fl_X9_73 rfl ?_
    cases h
    exact E_iret (M := mX9_fact) rfl dX9_fact_104
  rw [if_neg c10] at h
  by_cases c11 : x0 = 10
  · rw [if_pos c11] at h
    refine E_tsIn (M := mX9_fact) (off := 96) 10 c11 105 (by decide) (by decide) (by decide) rfl dX9_fact_9 ?_
    refine E_iload_n (M := mX9_fact) 106 rfl dX9_fact_105 rfl 3 rfl ?_
    cases h
    exact E_iret (M := mX9_fact) rfl dX9_fact_106
  rw [if_neg c11] at h
  by_cases c12 : x0 = 11
  · rw [if_pos c12] at h
    refine E_tsIn (M := mX9_fact) (off := 98) 11 c12 107 (by decide) (by decide) (by decide) rfl dX9_fact_9 ?_
    refine E_aload (M := mX9_fact) 109 rfl dX9_fact_107 0 rfl ?_
    refine E_gI (M := mX9_fact) 112 rfl dX9_fact_109 (sh_N (isN_ld hx1 hv1)) fl_X9_76 rfl ?_
    cases h
    exact E_iret (M := mX9_fact) rfl dX9_fact_112
  rw [if_neg c12] at h
  refine E_tsOut (M := mX9_fact) 8 (by decide) (fun i hi => match i, hi with | 0, _ => toI c2 (by decide) | 1, _ => toI c4 (by decide) | 2, _ => toI c6 (by decide) | 3, _ => toI c7 (by decide) | 4, _ => toI c8 (by decide) | 5, _ => toI c10 (by decide) | 6, _ => toI c11 (by decide) | 7, _ => toI c12 (by decide) | (n + 8), hi => absurd hi (by omega)) 113 (by decide) dX9_fact_9 ?_
  refine E_iload_n (M := mX9_fact) 114 rfl dX9_fact_113 rfl 1 rfl ?_
  refine E_bipush (M := mX9_fact) (v := 18) 116 rfl dX9_fact_114 (by decide) ?_
  refine E_icmp_lt (M := mX9_fact) 126 119 (by decide) rfl dX9_fact_116 (fun c13 => ?_) (fun c13 => ?_)
  · rw [if_pos c13] at h
    refine E_aload (M := mX9_fact) 128 rfl dX9_fact_126 0 rfl ?_
    refine E_gI (M := mX9_fact) 131 rfl dX9_fact_128 (sh_N (isN_ld hx1 hv1)) fl_X9_79 rfl ?_
    refine E_iload_n (M := mX9_fact) 132 rfl dX9_fact_131 rfl 1 rfl ?_
    refine E_icmp_ne (M := mX9_fact) 139 135 (by decide) rfl dX9_fact_132 (fun c14 => ?_) (fun c14 => ?_)
    · rw [if_neg c14] at h
      refine E_iconst (M := mX9_fact) (v := 0) 140 rfl dX9_fact_139 (by decide) ?_
      refine E_sub (M := mX9_fact) (lv' := []) [] rfl ?_
      exact S_X9_fact_140 0 I L _ h
    · rw [if_pos c14] at h
      refine E_iconst (M := mX9_fact) (v := 1) 136 rfl dX9_fact_135 (by decide) ?_
      refine E_goto (M := mX9_fact) 140 (by decide) dX9_fact_136 ?_
      refine E_sub (M := mX9_fact) (lv' := []) [] rfl ?_
      exact S_X9_fact_140 1 I L _ h
  · rw [if_neg c13] at h
    refine E_iload_n (M := mX9_fact) 120 rfl dX9_fact_119 rfl 1 rfl ?_
    refine E_bipush (M := mX9_fact) (v := 18) 122 rfl dX9_fact_120 (by decide) ?_
    refine E_isub (M := mX9_fact) 123 rfl dX9_fact_122 ?_
    refine E_goto (M := mX9_fact) 140 (by decide) dX9_fact_123 ?_
    refine E_sub (M := mX9_fact) (lv' := []) [] rfl ?_
    exact S_X9_fact_140 (x0 - 18) I L _ h
theorem C_X9_fact {g : Gx} {x0 : Int32} {x1 : Nat} {x2 : Int32} {x3 : Bool} (hx1 : isH x1) {I : MI} {L : ML} {res : Int32} (h : f_X9_fact x0 x1 x2 x3 I L = some res) : Ent g 1 0 mX9_fact [.int x0, .ref x1, .int x2, .int (bI x3)] (I, L) (.inl (some (.int res))) (I, L) := Ent_of (by decide +kernel) (Nat.le_of_ble_eq_true rfl) (S_X9_fact x0 x1 x2 x3 hx1 I L _ h)
def f_X9_joined_65 (y0 : Bool) (I : MI) (L : ML) : Option (Int32) := some (bI y0)
set_option maxRecDepth 100000 in
theorem S_X9_joined_65 {g : Gx} (y0 : Bool) (I : MI) (L : ML) (res : Int32) (h : f_X9_joined_65 y0 I L = some res) : E g 1 0 mX9_joined 65 [] [.int (bI y0)] (I, L) (.inl (some (.int res))) (I, L) := by
  unfold f_X9_joined_65 at h
  cases h
  exact E_iret (M := mX9_joined) rfl dX9_joined_65
def f_X9_joined_54 (y0 : Bool) (I : MI) (L : ML) : Option (Int32) := some (bI y0)
set_option maxRecDepth 100000 in
theorem S_X9_joined_54 {g : Gx} (y0 : Bool) (I : MI) (L : ML) (res : Int32) (h : f_X9_joined_54 y0 I L = some res) : E g 1 0 mX9_joined 54 [] [.int (bI y0)] (I, L) (.inl (some (.int res))) (I, L) := by
  unfold f_X9_joined_54 at h
  cases h
  exact E_iret (M := mX9_joined) rfl dX9_joined_54
def f_X9_joined (x0 : Int32) (x1 : Int32) (x2 : Int32) (I : MI) (L : ML) : Option (Int32) := if x0 = 13 then (some (x1 ||| x2)) else if x0 = 14 then (some (x1 &&& x2)) else if x0 = 15 then (some (x1 + x2)) else if x0 = 16 then (if x2 ≤ x1 then (f_X9_joined_54 false I L) else (f_X9_joined_54 true I L)) else (if x1 ≤ x2 then (f_X9_joined_65 false I L) else (f_X9_joined_65 true I L))
set_option maxRecDepth 100000 in
theorem S_X9_joined {g : Gx} (x0 : Int32) (x1 : Int32) (x2 : Int32) (I : MI) (L : ML) (res : Int32) (h : f_X9_joined x0 x1 x2 I L = some res) : E g 1 0 mX9_joined 0 [(0, .int x0), (1, .int x1), (2, .int x2)] [] (I, L) (.inl (some (.int res))) (I, L) := by
  unfold f_X9_joined at h
  refine E_iload_n (M := mX9_joined) 1 rfl dX9_joined_0 rfl 0 rfl ?_
  by_cases c1 : x0 = 13
  · rw [if_pos c1] at h
    refine E_tsIn (M := mX9_joined) (off := 31) 13 c1 32 (by decide) (by decide) (by decide) rfl dX9_joined_1 ?_
    refine E_iload_n (M := mX9_joined) 33 rfl dX9_joined_32 rfl 1 rfl ?_
    refine E_iload_n (M := mX9_joined) 34 rfl dX9_joined_33 rfl 2 rfl ?_
    refine E_ior (M := mX9_joined) 35 rfl dX9_joined_34 ?_
    cases h
    exact E_iret (M := mX9_joined) rfl dX9_joined_35
  rw [if_neg c1] at h
  by_cases c2 : x0 = 14
  · rw [if_pos c2] at h
    refine E_tsIn (M := mX9_joined) (off := 35) 14 c2 36 (by decide) (by decide) (by decide) rfl dX9_joined_1 ?_
    refine E_iload_n (M := mX9_joined) 37 rfl dX9_joined_36 rfl 1 rfl ?_
    refine E_iload_n (M := mX9_joined) 38 rfl dX9_joined_37 rfl 2 rfl ?_
    refine E_iand (M := mX9_joined) 39 rfl dX9_joined_38 ?_
    cases h
    exact E_iret (M := mX9_joined) rfl dX9_joined_39
  rw [if_neg c2] at h
  by_cases c3 : x0 = 15
  · rw [if_pos c3] at h
    refine E_tsIn (M := mX9_joined) (off := 39) 15 c3 40 (by decide) (by decide) (by decide) rfl dX9_joined_1 ?_
    refine E_iload_n (M := mX9_joined) 41 rfl dX9_joined_40 rfl 1 rfl ?_
    refine E_iload_n (M := mX9_joined) 42 rfl dX9_joined_41 rfl 2 rfl ?_
    refine E_iadd (M := mX9_joined) 43 rfl dX9_joined_42 ?_
    cases h
    exact E_iret (M := mX9_joined) rfl dX9_joined_43
  rw [if_neg c3] at h
  by_cases c4 : x0 = 16
  · rw [if_pos c4] at h
    refine E_tsIn (M := mX9_joined) (off := 43) 16 c4 44 (by decide) (by decide) (by decide) rfl dX9_joined_1 ?_
    refine E_iload_n (M := mX9_joined) 45 rfl dX9_joined_44 rfl 1 rfl ?_
    refine E_iload_n (M := mX9_joined) 46 rfl dX9_joined_45 rfl 2 rfl ?_
    refine E_icmp_ge (M := mX9_joined) 53 49 (by decide) rfl dX9_joined_46 (fun c5 => ?_) (fun c5 => ?_)
    · rw [if_pos c5] at h
      refine E_iconst (M := mX9_joined) (v := 0) 54 rfl dX9_joined_53 (by decide) ?_
      refine E_sub (M := mX9_joined) (lv' := []) [] rfl ?_
      exact S_X9_joined_54 false I L _ h
    · rw [if_neg c5] at h
      refine E_iconst (M := mX9_joined) (v := 1) 50 rfl dX9_joined_49 (by decide) ?_
      refine E_goto (M := mX9_joined) 54 (by decide) dX9_joined_50 ?_
      refine E_sub (M := mX9_joined) (lv' := []) [] rfl ?_
      exact S_X9_joined_54 true I L _ h
  rw [if_neg c4] at h
  refine E_tsOut (M := mX9_joined) 4 (by decide) (fun i hi => match i, hi with | 0, _ => toI c1 (by decide) | 1, _ => toI c2 (by decide) | 2, _ => toI c3 (by decide) | 3, _ => toI c4 (by decide) | (n + 4), hi => absurd hi (by omega)) 55 (by decide) dX9_joined_1 ?_
  refine E_iload_n (M := mX9_joined) 56 rfl dX9_joined_55 rfl 1 rfl ?_
  refine E_iload_n (M := mX9_joined) 57 rfl dX9_joined_56 rfl 2 rfl ?_
  refine E_icmp_le (M := mX9_joined) 64 60 (by decide) rfl dX9_joined_57 (fun c6 => ?_) (fun c6 => ?_)
  · rw [if_pos c6] at h
    refine E_iconst (M := mX9_joined) (v := 0) 65 rfl dX9_joined_64 (by decide) ?_
    refine E_sub (M := mX9_joined) (lv' := []) [] rfl ?_
    exact S_X9_joined_65 false I L _ h
  · rw [if_neg c6] at h
    refine E_iconst (M := mX9_joined) (v := 1) 61 rfl dX9_joined_60 (by decide) ?_
    refine E_goto (M := mX9_joined) 65 (by decide) dX9_joined_61 ?_
    refine E_sub (M := mX9_joined) (lv' := []) [] rfl ?_
    exact S_X9_joined_65 true I L _ h
theorem C_X9_joined {g : Gx} {x0 : Int32} {x1 : Int32} {x2 : Int32} {I : MI} {L : ML} {res : Int32} (h : f_X9_joined x0 x1 x2 I L = some res) : Ent g 1 0 mX9_joined [.int x0, .int x1, .int x2] (I, L) (.inl (some (.int res))) (I, L) := Ent_of (by decide +kernel) (Nat.le_of_ble_eq_true rfl) (S_X9_joined x0 x1 x2 I L _ h)
def f_X9_holds_188 (y0 : Bool) (I : MI) (L : ML) : Option (Bool × MI × ML) := some (y0, I, L)
set_option maxRecDepth 100000 in
theorem S_X9_holds_188 {g : Gx} (y0 : Bool) (I : MI) (L : ML) (res : Bool × MI × ML) (h : f_X9_holds_188 y0 I L = some res) : E g 2 0 mX9_holds 188 [] [.int (bI y0)] (I, L) (.inl (some (.int (bI res.1)))) (res.2.1, res.2.2) := by
  unfold f_X9_holds_188 at h
  cases h
  exact E_zret (M := mX9_holds) (x := y0) rfl dX9_holds_188
def f_X9_holds_183 (I : MI) (L : ML) : Option (Bool × MI × ML) := f_X9_holds_188 true I L
set_option maxRecDepth 100000 in
theorem S_X9_holds_183 {g : Gx} (I : MI) (L : ML) (res : Bool × MI × ML) (h : f_X9_holds_183 I L = some res) : E g 2 0 mX9_holds 183 [] [] (I, L) (.inl (some (.int (bI res.1)))) (res.2.1, res.2.2) := by
  unfold f_X9_holds_183 at h
  refine E_iconst (M := mX9_holds) (v := 1) 184 rfl dX9_holds_183 (by decide) ?_
  refine E_goto (M := mX9_holds) 188 (by decide) dX9_holds_184 ?_
  refine E_sub (M := mX9_holds) (lv' := []) [] rfl ?_
  exact S_X9_holds_188 true I L _ h
def f_X9_holds_163 (k25 : Nat → Int32 → Nat → Int32 → Bool → Int32 → Int32 → MI → ML → Option (Bool × MI × ML)) (x0 : Nat) (x1 : Int32) (x2 : Nat) (x3 : Int32) (x4 : Bool) (x6 : Int32) (x7 : Int32) (I : MI) (L : ML) : Option (Bool × MI × ML) := k25 x0 x1 x2 x3 x4 x6 (x7 + 1) I L
set_option maxRecDepth 100000 in
theorem S_X9_holds_163 {g : Gx} {k25 : Nat → Int32 → Nat → Int32 → Bool → Int32 → Int32 → MI → ML → Option (Bool × MI × ML)} (hk25 : ∀ (x0z : Nat) (x1z : Int32) (x2z : Nat) (x3z : Int32) (x4z : Bool) (x6z : Int32) (x7z : Int32) (hx0z : isH x0z) (hx2z : isH x2z) (I : MI) (L : ML) (res : Bool × MI × ML), k25 x0z x1z x2z x3z x4z x6z x7z I L = some res → E g 2 0 mX9_holds 25 [(0, .ref (x0z + 5)), (1, .int x1z), (2, .ref x2z), (3, .int x3z), (4, .int (bI x4z)), (6, .int x6z), (7, .int x7z)] [] (I, L) (.inl (some (.int (bI res.1)))) (res.2.1, res.2.2)) (x0 : Nat) (x1 : Int32) (x2 : Nat) (x3 : Int32) (x4 : Bool) (x6 : Int32) (x7 : Int32) (hx0 : isH x0) (hx2 : isH x2) (I : MI) (L : ML) (res : Bool × MI × ML) (h : f_X9_holds_163 k25 x0 x1 x2 x3 x4 x6 x7 I L = some res) : E g 2 0 mX9_holds 163 [(0, .ref (x0 + 5)), (1, .int x1), (2, .ref x2), (3, .int x3), (4, .int (bI x4)), (6, .int x6), (7, .int x7)] [] (I, L) (.inl (some (.int (bI res.1)))) (res.2.1, res.2.2) := by
  unfold f_X9_holds_163 at h
  refine E_iinc (M := mX9_holds) (j := 6) (v := x7 + 1) (lv' := [(7, .int (x7 + 1)), (0, .ref (x0 + 5)), (1, .int x1), (2, .ref x2), (3, .int x3), (4, .int (bI x4)), (6, .int x6)]) 166 rfl dX9_holds_163 rfl rfl (Nat.le_of_ble_eq_true rfl) rfl ?_
  refine E_goto (M := mX9_holds) 25 (by decide) dX9_holds_166 ?_
  refine E_sub (M := mX9_holds) (lv' := [(0, .ref (x0 + 5)), (1, .int x1), (2, .ref x2), (3, .int x3), (4, .int (bI x4)), (6, .int x6), (7, .int (x7 + 1))]) [1, 2, 3, 4, 5, 6, 0] rfl ?_
  exact hk25 x0 x1 x2 x3 x4 x6 (x7 + 1) hx0 hx2 I L _ h
def f_X9_holds_137 (k25 : Nat → Int32 → Nat → Int32 → Bool → Int32 → Int32 → MI → ML → Option (Bool × MI × ML)) (x0 : Nat) (x1 : Int32) (x2 : Nat) (x3 : Int32) (x4 : Bool) (x6 : Int32) (x7 : Int32) (x8 : Int32) (I : MI) (L : ML) : Option (Bool × MI × ML) := if 17 ≤ x6 then (f_X9_holds_163 k25 x0 x1 x2 x3 x4 x6 x7 I L) else (Option.bind (f_X9_fact x8 x2 x3 x4 I L) fun v2 => Option.bind (stI I (x0 + 10) 17 x6 v2) fun I3 => f_X9_holds_163 k25 x0 x1 x2 x3 x4 (x6 + 1) x7 I3 L)
set_option maxRecDepth 100000 in
theorem S_X9_holds_137 {g : Gx} {k25 : Nat → Int32 → Nat → Int32 → Bool → Int32 → Int32 → MI → ML → Option (Bool × MI × ML)} (hk25 : ∀ (x0z : Nat) (x1z : Int32) (x2z : Nat) (x3z : Int32) (x4z : Bool) (x6z : Int32) (x7z : Int32) (hx0z : isH x0z) (hx2z : isH x2z) (I : MI) (L : ML) (res : Bool × MI × ML), k25 x0z x1z x2z x3z x4z x6z x7z I L = some res → E g 2 0 mX9_holds 25 [(0, .ref (x0z + 5)), (1, .int x1z), (2, .ref x2z), (3, .int x3z), (4, .int (bI x4z)), (6, .int x6z), (7, .int x7z)] [] (I, L) (.inl (some (.int (bI res.1)))) (res.2.1, res.2.2)) (x0 : Nat) (x1 : Int32) (x2 : Nat) (x3 : Int32) (x4 : Bool) (x6 : Int32) (x7 : Int32) (x8 : Int32) (hx0 : isH x0) (hx2 : isH x2) (I : MI) (L : ML) (res : Bool × MI × ML) (h : f_X9_holds_137 k25 x0 x1 x2 x3 x4 x6 x7 x8 I L = some res) : E g 2 0 mX9_holds 137 [(0, .ref (x0 + 5)), (1, .int x1), (2, .ref x2), (3, .int x3), (4, .int (bI x4)), (6, .int x6), (7, .int x7), (8, .int x8)] [] (I, L) (.inl (some (.int (bI res.1)))) (res.2.1, res.2.2) := by
  unfold f_X9_holds_137 at h
  refine E_iload (M := mX9_holds) 139 rfl dX9_holds_137 5 rfl ?_
  refine E_bipush (M := mX9_holds) (v := 17) 141 rfl dX9_holds_139 (by decide) ?_
  refine E_icmp_ge (M := mX9_holds) 163 144 (by decide) rfl dX9_holds_141 (fun c1 => ?_) (fun c1 => ?_)
  · rw [if_pos c1] at h
    refine E_sub (M := mX9_holds) (lv' := [(0, .ref (x0 + 5)), (1, .int x1), (2, .ref x2), (3, .int x3), (4, .int (bI x4)), (6, .int x6), (7, .int x7)]) [0, 1, 2, 3, 4, 5, 6] rfl ?_
    exact S_X9_holds_163 hk25 x0 x1 x2 x3 x4 x6 x7 hx0 hx2 I L _ h
  · rw [if_neg c1] at h
    refine E_aload_n (M := mX9_holds) 145 rfl dX9_holds_144 rfl 0 rfl ?_
    refine E_gR (M := mX9_holds) (x0 + 10) 148 rfl dX9_holds_145 (sh_H5 hx0) fl_X9_31 rfl (rt_W6 hx0) (H_lt hx0 10 (by decide)) ?_
    refine E_iload (M := mX9_holds) 150 rfl dX9_holds_148 5 rfl ?_
    refine E_iload (M := mX9_holds) 152 rfl dX9_holds_150 7 rfl ?_
    refine E_aload_n (M := mX9_holds) 153 rfl dX9_holds_152 rfl 2 rfl ?_
    refine E_iload_n (M := mX9_holds) 154 rfl dX9_holds_153 rfl 3 rfl ?_
    refine E_iload (M := mX9_holds) 156 rfl dX9_holds_154 4 rfl ?_
    replace h := Option.bind_eq_some_iff.mp h
    obtain ⟨v2, hv2, h⟩ := h
    refine E_cS1 (M := mX9_holds) (As := [.int x8, .ref x2, .int x3, .int (bI x4)]) 159 rfl dX9_holds_156 ck_X9_48 ss_X9_fact rfl (by decide) (Nat.le_of_ble_eq_true rfl) (C_X9_fact (g := g) hx2 hv2) rfl ?_
    replace h := Option.bind_eq_some_iff.mp h
    obtain ⟨I3, hI3, h⟩ := h
    refine E_stI (M := mX9_holds) 160 rfl dX9_holds_159 (sh_H10 hx0) hI3 ?_
    refine E_iinc (M := mX9_holds) (j := 5) (v := x6 + 1) (lv' := [(6, .int (x6 + 1)), (0, .ref (x0 + 5)), (1, .int x1), (2, .ref x2), (3, .int x3), (4, .int (bI x4)), (7, .int x7), (8, .int x8)]) 163 rfl dX9_holds_160 rfl rfl (Nat.le_of_ble_eq_true rfl) rfl ?_
    refine E_sub (M := mX9_holds) (lv' := [(0, .ref (x0 + 5)), (1, .int x1), (2, .ref x2), (3, .int x3), (4, .int (bI x4)), (6, .int (x6 + 1)), (7, .int x7)]) [1, 2, 3, 4, 5, 0, 6] rfl ?_
    exact S_X9_holds_163 hk25 x0 x1 x2 x3 x4 (x6 + 1) x7 hx0 hx2 I3 L _ h
def f_X9_holds_81 (k25 : Nat → Int32 → Nat → Int32 → Bool → Int32 → Int32 → MI → ML → Option (Bool × MI × ML)) (x0 : Nat) (x1 : Int32) (x2 : Nat) (x3 : Int32) (x4 : Bool) (x6 : Int32) (x7 : Int32) (x8 : Int32) (I : MI) (L : ML) : Option (Bool × MI × ML) := if x8 < 13 then (f_X9_holds_137 k25 x0 x1 x2 x3 x4 x6 x7 x8 I L) else (if 17 < x8 then (f_X9_holds_137 k25 x0 x1 x2 x3 x4 x6 x7 x8 I L) else (if x6 < 2 then (f_X9_holds_137 k25 x0 x1 x2 x3 x4 x6 x7 x8 I L) else (Option.bind (ldI I (x0 + 10) 17 ((x6 + (-1)) - 1)) fun v4 => Option.bind (ldI I (x0 + 10) 17 (x6 + (-1))) fun v5 => Option.bind (f_X9_joined x8 v4 v5 I L) fun v6 => Option.bind (stI I (x0 + 10) 17 ((x6 + (-1)) - 1) v6) fun I7 => f_X9_holds_163 k25 x0 x1 x2 x3 x4 (x6 + (-1)) x7 I7 L)))
set_option maxRecDepth 100000 in
theorem S_X9_holds_81 {g : Gx} {k25 : Nat → Int32 → Nat → Int32 → Bool → Int32 → Int32 → MI → ML → Option (Bool × MI × ML)} (hk25 : ∀ (x0z : Nat) (x1z : Int32) (x2z : Nat) (x3z : Int32) (x4z : Bool) (x6z : Int32) (x7z : Int32) (hx0z : isH x0z) (hx2z : isH x2z) (I : MI) (L : ML) (res : Bool × MI × ML), k25 x0z x1z x2z x3z x4z x6z x7z I L = some res → E g 2 0 mX9_holds 25 [(0, .ref (x0z + 5)), (1, .int x1z), (2, .ref x2z), (3, .int x3z), (4, .int (bI x4z)), (6, .int x6z), (7, .int x7z)] [] (I, L) (.inl (some (.int (bI res.1)))) (res.2.1, res.2.2)) (x0 : Nat) (x1 : Int32) (x2 : Nat) (x3 : Int32) (x4 : Bool) (x6 : Int32) (x7 : Int32) (x8 : Int32) (hx0 : isH x0) (hx2 : isH x2) (I : MI) (L : ML) (res : Bool × MI × ML) (h : f_X9_holds_81 k25 x0 x1 x2 x3 x4 x6 x7 x8 I L = some res) : E g 2 0 mX9_holds 81 [(0, .ref (x0 + 5)), (1, .int x1), (2, .ref x2), (3, .int x3), (4, .int (bI x4)), (6, .int x6), (7, .int x7), (8, .int x8)] [] (I, L) (.inl (some (.int (bI res.1)))) (res.2.1, res.2.2) := by
  unfold f_X9_holds_81 at h
  refine E_iload (M := mX9_holds) 83 rfl dX9_holds_81 7 rfl ?_
  refine E_bipush (M := mX9_holds) (v := 13) 85 rfl dX9_holds_83 (by decide) ?_
  refine E_icmp_lt (M := mX9_holds) 137 88 (by decide) rfl dX9_holds_85 (fun c1 => ?_) (fun c1 => ?_)
  · rw [if_pos c1] at h
    refine E_sub (M := mX9_holds) (lv' := [(0, .ref (x0 + 5)), (1, .int x1), (2, .ref x2), (3, .int x3), (4, .int (bI x4)), (6, .int x6), (7, .int x7), (8, .int x8)]) [0, 1, 2, 3, 4, 5, 6, 7] rfl ?_
    exact S_X9_holds_137 hk25 x0 x1 x2 x3 x4 x6 x7 x8 hx0 hx2 I L _ h
  · rw [if_neg c1] at h
    refine E_iload (M := mX9_holds) 90 rfl dX9_holds_88 7 rfl ?_
    refine E_bipush (M := mX9_holds) (v := 17) 92 rfl dX9_holds_90 (by decide) ?_
    refine E_icmp_gt (M := mX9_holds) 137 95 (by decide) rfl dX9_holds_92 (fun c2 => ?_) (fun c2 => ?_)
    · rw [if_pos c2] at h
      refine E_sub (M := mX9_holds) (lv' := [(0, .ref (x0 + 5)), (1, .int x1), (2, .ref x2), (3, .int x3), (4, .int (bI x4)), (6, .int x6), (7, .int x7), (8, .int x8)]) [0, 1, 2, 3, 4, 5, 6, 7] rfl ?_
      exact S_X9_holds_137 hk25 x0 x1 x2 x3 x4 x6 x7 x8 hx0 hx2 I L _ h
    · rw [if_neg c2] at h
      refine E_iload (M := mX9_holds) 97 rfl dX9_holds_95 5 rfl ?_
      refine E_iconst (M := mX9_holds) (v := 2) 98 rfl dX9_holds_97 (by decide) ?_
      refine E_icmp_lt (M := mX9_holds) 137 101 (by decide) rfl dX9_holds_98 (fun c3 => ?_) (fun c3 => ?_)
      · rw [if_pos c3] at h
        refine E_sub (M := mX9_holds) (lv' := [(0, .ref (x0 + 5)), (1, .int x1), (2, .ref x2), (3, .int x3), (4, .int (bI x4)), (6, .int x6), (7, .int x7), (8, .int x8)]) [0, 1, 2, 3, 4, 5, 6, 7] rfl ?_
        exact S_X9_holds_137 hk25 x0 x1 x2 x3 x4 x6 x7 x8 hx0 hx2 I L _ h
      · rw [if_neg c3] at h
        refine E_iinc (M := mX9_holds) (j := 5) (v := x6 + (-1)) (lv' := [(6, .int (x6 + (-1))), (0, .ref (x0 + 5)), (1, .int x1), (2, .ref x2), (3, .int x3), (4, .int (bI x4)), (7, .int x7), (8, .int x8)]) 104 rfl dX9_holds_101 rfl rfl (Nat.le_of_ble_eq_true rfl) rfl ?_
        refine E_aload_n (M := mX9_holds) 105 rfl dX9_holds_104 rfl 1 rfl ?_
        refine E_gR (M := mX9_holds) (x0 + 10) 108 rfl dX9_holds_105 (sh_H5 hx0) fl_X9_31 rfl (rt_W6 hx0) (H_lt hx0 10 (by decide)) ?_
        refine E_iload (M := mX9_holds) 110 rfl dX9_holds_108 0 rfl ?_
        refine E_iconst (M := mX9_holds) (v := 1) 111 rfl dX9_holds_110 (by decide) ?_
        refine E_isub (M := mX9_holds) 112 rfl dX9_holds_111 ?_
        refine E_iload (M := mX9_holds) 114 rfl dX9_holds_112 7 rfl ?_
        refine E_aload_n (M := mX9_holds) 115 rfl dX9_holds_114 rfl 1 rfl ?_
        refine E_gR (M := mX9_holds) (x0 + 10) 118 rfl dX9_holds_115 (sh_H5 hx0) fl_X9_31 rfl (rt_W6 hx0) (H_lt hx0 10 (by decide)) ?_
        refine E_iload (M := mX9_holds) 120 rfl dX9_holds_118 0 rfl ?_
        refine E_iconst (M := mX9_holds) (v := 1) 121 rfl dX9_holds_120 (by decide) ?_
        refine E_isub (M := mX9_holds) 122 rfl dX9_holds_121 ?_
        replace h := Option.bind_eq_some_iff.mp h
        obtain ⟨v4, hv4, h⟩ := h
        refine E_ldI (M := mX9_holds) 123 rfl dX9_holds_122 (sh_H10 hx0) hv4 ?_
        refine E_aload_n (M := mX9_holds) 124 rfl dX9_holds_123 rfl 1 rfl ?_
        refine E_gR (M := mX9_holds) (x0 + 10) 127 rfl dX9_holds_124 (sh_H5 hx0) fl_X9_31 rfl (rt_W6 hx0) (H_lt hx0 10 (by decide)) ?_
        refine E_iload (M := mX9_holds) 129 rfl dX9_holds_127 0 rfl ?_
        replace h := Option.bind_eq_some_iff.mp h
        obtain ⟨v5, hv5, h⟩ := h
        refine E_ldI (M := mX9_holds) 130 rfl dX9_holds_129 (sh_H10 hx0) hv5 ?_
        replace h := Option.bind_eq_some_iff.mp h
        obtain ⟨v6, hv6, h⟩ := h
        refine E_cS1 (M := mX9_holds) (As := [.int x8, .int v4, .int v5]) 133 rfl dX9_holds_130 ck_X9_44 ss_X9_joined rfl (by decide) (Nat.le_of_ble_eq_true rfl) (C_X9_joined (g := g) hv6) rfl ?_
        replace h := Option.bind_eq_some_iff.mp h
        obtain ⟨I7, hI7, h⟩ := h
        refine E_stI (M := mX9_holds) 134 rfl dX9_holds_133 (sh_H10 hx0) hI7 ?_
        refine E_goto (M := mX9_holds) 163 (by decide) dX9_holds_134 ?_
        refine E_sub (M := mX9_holds) (lv' := [(0, .ref (x0 + 5)), (1, .int x1), (2, .ref x2), (3, .int x3), (4, .int (bI x4)), (6, .int (x6 + (-1))), (7, .int x7)]) [1, 2, 3, 4, 5, 0, 6] rfl ?_
        exact S_X9_holds_163 hk25 x0 x1 x2 x3 x4 (x6 + (-1)) x7 hx0 hx2 I7 L _ h
def f_X9_holds_25 : Nat → Nat → Int32 → Nat → Int32 → Bool → Int32 → Int32 → MI → ML → Option (Bool × MI × ML)
  | 0, _, _, _, _, _, _, _, _, _ => none
  | n + 1, x0, x1, x2, x3, x4, x6, x7, I, L => Option.bind (ldI I (x0 + 8) 12 x1) fun v1 => if v1 ≤ x7 then (if x6 = 0 then (f_X9_holds_183 I L) else (Option.bind (ldI I (x0 + 10) 17 0) fun v4 => if v4 = 0 then (f_X9_holds_188 false I L) else (f_X9_holds_183 I L))) else (Option.bind (ldI I (x0 + 9) 400 x7) fun v6 => if v6 = 12 then (if x6 < 1 then (f_X9_holds_81 (f_X9_holds_25 n) x0 x1 x2 x3 x4 x6 x7 v6 I L) else (Option.bind (ldI I (x0 + 10) 17 (x6 - 1)) fun v9 => Option.bind (stI I (x0 + 10) 17 (x6 - 1) (1 - v9)) fun I10 => f_X9_holds_163 (f_X9_holds_25 n) x0 x1 x2 x3 x4 x6 x7 I10 L)) else (f_X9_holds_81 (f_X9_holds_25 n) x0 x1 x2 x3 x4 x6 x7 v6 I L))
set_option maxRecDepth 100000 in
theorem S_X9_holds_25 {g : Gx} : ∀ (n : Nat) (x0 : Nat) (x1 : Int32) (x2 : Nat) (x3 : Int32) (x4 : Bool) (x6 : Int32) (x7 : Int32) (hx0 : isH x0) (hx2 : isH x2) (I : MI) (L : ML) (res : Bool × MI × ML), f_X9_holds_25 n x0 x1 x2 x3 x4 x6 x7 I L = some res → E g 2 0 mX9_holds 25 [(0, .ref (x0 + 5)), (1, .int x1), (2, .ref x2), (3, .int x3), (4, .int (bI x4)), (6, .int x6), (7, .int x7)] [] (I, L) (.inl (some (.int (bI res.1)))) (res.2.1, res.2.2) := by
  intro n
  induction n with
  | zero =>
    intros
    rename_i h
    cases h
  | succ n ih =>
    intro x0 x1 x2 x3 x4 x6 x7 hx0 hx2 I L res h
    rw [f_X9_holds_25] at h
    refine E_iload (M := mX9_holds) 27 rfl dX9_holds_25 6 rfl ?_
    refine E_aload_n (M := mX9_holds) 28 rfl dX9_holds_27 rfl 0 rfl ?_
    refine E_gR (M := mX9_holds) (x0 + 8) 31 rfl dX9_holds_28 (sh_H5 hx0) fl_X9_18 rfl (rt_W2 hx0) (H_lt hx0 8 (by decide)) ?_
    refine E_iload_n (M := mX9_holds) 32 rfl dX9_holds_31 rfl 1 rfl ?_
    replace h := Option.bind_eq_some_iff.mp h
    obtain ⟨v1, hv1, h⟩ := h
    refine E_ldI (M := mX9_holds) 33 rfl dX9_holds_32 (sh_H8 hx0) hv1 ?_
    refine E_icmp_ge (M := mX9_holds) 169 36 (by decide) rfl dX9_holds_33 (fun c2 => ?_) (fun c2 => ?_)
    · rw [if_pos c2] at h
      refine E_iload (M := mX9_holds) 171 rfl dX9_holds_169 5 rfl ?_
      refine E_if_eq (M := mX9_holds) 183 174 (by decide) rfl dX9_holds_171 (fun c3 => ?_) (fun c3 => ?_)
      · rw [if_pos c3] at h
        refine E_sub (M := mX9_holds) (lv' := []) [] rfl ?_
        exact S_X9_holds_183 I L _ h
      · rw [if_neg c3] at h
        refine E_aload_n (M := mX9_holds) 175 rfl dX9_holds_174 rfl 0 rfl ?_
        refine E_gR (M := mX9_holds) (x0 + 10) 178 rfl dX9_holds_175 (sh_H5 hx0) fl_X9_31 rfl (rt_W6 hx0) (H_lt hx0 10 (by decide)) ?_
        refine E_iconst (M := mX9_holds) (v := 0) 179 rfl dX9_holds_178 (by decide) ?_
        replace h := Option.bind_eq_some_iff.mp h
        obtain ⟨v4, hv4, h⟩ := h
        refine E_ldI (M := mX9_holds) 180 rfl dX9_holds_179 (sh_H10 hx0) hv4 ?_
        refine E_if_eq (M := mX9_holds) 187 183 (by decide) rfl dX9_holds_180 (fun c5 => ?_) (fun c5 => ?_)
        · rw [if_pos c5] at h
          refine E_iconst (M := mX9_holds) (v := 0) 188 rfl dX9_holds_187 (by decide) ?_
          refine E_sub (M := mX9_holds) (lv' := []) [] rfl ?_
          exact S_X9_holds_188 false I L _ h
        · rw [if_neg c5] at h
          refine E_sub (M := mX9_holds) (lv' := []) [] rfl ?_
          exact S_X9_holds_183 I L _ h
    · rw [if_neg c2] at h
      refine E_aload_n (M := mX9_holds) 37 rfl dX9_holds_36 rfl 0 rfl ?_
      refine E_gR (M := mX9_holds) (x0 + 9) 40 rfl dX9_holds_37 (sh_H5 hx0) fl_X9_21 rfl (rt_W3 hx0) (H_lt hx0 9 (by decide)) ?_
      refine E_iload (M := mX9_holds) 42 rfl dX9_holds_40 6 rfl ?_
      replace h := Option.bind_eq_some_iff.mp h
      obtain ⟨v6, hv6, h⟩ := h
      refine E_ldI (M := mX9_holds) 43 rfl dX9_holds_42 (sh_H9 hx0) hv6 ?_
      refine E_istore (M := mX9_holds) (lv' := [(8, .int v6), (0, .ref (x0 + 5)), (1, .int x1), (2, .ref x2), (3, .int x3), (4, .int (bI x4)), (6, .int x6), (7, .int x7)]) 45 rfl dX9_holds_43 (Nat.le_of_ble_eq_true rfl) rfl ?_
      refine E_iload (M := mX9_holds) 47 rfl dX9_holds_45 0 rfl ?_
      refine E_bipush (M := mX9_holds) (v := 12) 49 rfl dX9_holds_47 (by decide) ?_
      refine E_icmp_ne (M := mX9_holds) 81 52 (by decide) rfl dX9_holds_49 (fun c7 => ?_) (fun c7 => ?_)
      · rw [if_neg c7] at h
        refine E_sub (M := mX9_holds) (lv' := [(0, .ref (x0 + 5)), (1, .int x1), (2, .ref x2), (3, .int x3), (4, .int (bI x4)), (6, .int x6), (7, .int x7), (8, .int v6)]) [1, 2, 3, 4, 5, 6, 7, 0] rfl ?_
        exact S_X9_holds_81 ih x0 x1 x2 x3 x4 x6 x7 v6 hx0 hx2 I L _ h
      · rw [if_pos c7] at h
        refine E_iload (M := mX9_holds) 54 rfl dX9_holds_52 6 rfl ?_
        refine E_iconst (M := mX9_holds) (v := 1) 55 rfl dX9_holds_54 (by decide) ?_
        refine E_icmp_lt (M := mX9_holds) 81 58 (by decide) rfl dX9_holds_55 (fun c8 => ?_) (fun c8 => ?_)
        · rw [if_pos c8] at h
          refine E_sub (M := mX9_holds) (lv' := [(0, .ref (x0 + 5)), (1, .int x1), (2, .ref x2), (3, .int x3), (4, .int (bI x4)), (6, .int x6), (7, .int x7), (8, .int v6)]) [1, 2, 3, 4, 5, 6, 7, 0] rfl ?_
          exact S_X9_holds_81 ih x0 x1 x2 x3 x4 x6 x7 v6 hx0 hx2 I L _ h
        · rw [if_neg c8] at h
          refine E_aload_n (M := mX9_holds) 59 rfl dX9_holds_58 rfl 1 rfl ?_
          refine E_gR (M := mX9_holds) (x0 + 10) 62 rfl dX9_holds_59 (sh_H5 hx0) fl_X9_31 rfl (rt_W6 hx0) (H_lt hx0 10 (by decide)) ?_
          refine E_iload (M := mX9_holds) 64 rfl dX9_holds_62 6 rfl ?_
          refine E_iconst (M := mX9_holds) (v := 1) 65 rfl dX9_holds_64 (by decide) ?_
          refine E_isub (M := mX9_holds) 66 rfl dX9_holds_65 ?_
          refine E_iconst (M := mX9_holds) (v := 1) 67 rfl dX9_holds_66 (by decide) ?_
          refine E_aload_n (M := mX9_holds) 68 rfl dX9_holds_67 rfl 1 rfl ?_
          refine E_gR (M := mX9_holds) (x0 + 10) 71 rfl dX9_holds_68 (sh_H5 hx0) fl_X9_31 rfl (rt_W6 hx0) (H_lt hx0 10 (by decide)) ?_
          refine E_iload (M := mX9_holds) 73 rfl dX9_holds_71 6 rfl ?_
          refine E_iconst (M := mX9_holds) (v := 1) 74 rfl dX9_holds_73 (by decide) ?_
          refine E_isub (M := mX9_holds) 75 rfl dX9_holds_74 ?_
          replace h := Option.bind_eq_some_iff.mp h
          obtain ⟨v9, hv9, h⟩ := h
          refine E_ldI (M := mX9_holds) 76 rfl dX9_holds_75 (sh_H10 hx0) hv9 ?_
          refine E_isub (M := mX9_holds) 77 rfl dX9_holds_76 ?_
          replace h := Option.bind_eq_some_iff.mp h
          obtain ⟨I10, hI10, h⟩ := h
          refine E_stI (M := mX9_holds) 78 rfl dX9_holds_77 (sh_H10 hx0) hI10 ?_
          refine E_goto (M := mX9_holds) 163 (by decide) dX9_holds_78 ?_
          refine E_sub (M := mX9_holds) (lv' := [(0, .ref (x0 + 5)), (1, .int x1), (2, .ref x2), (3, .int x3), (4, .int (bI x4)), (6, .int x6), (7, .int x7)]) [1, 2, 3, 4, 5, 6, 7] rfl ?_
          exact S_X9_holds_163 ih x0 x1 x2 x3 x4 x6 x7 hx0 hx2 I10 L _ h
def f_X9_holds_16 (x0 : Nat) (x1 : Int32) (x2 : Nat) (x3 : Int32) (x4 : Bool) (y0 : Int32) (I : MI) (L : ML) : Option (Bool × MI × ML) := f_X9_holds_25 FU x0 x1 x2 x3 x4 0 y0 I L
set_option maxRecDepth 100000 in
theorem S_X9_holds_16 {g : Gx} (x0 : Nat) (x1 : Int32) (x2 : Nat) (x3 : Int32) (x4 : Bool) (y0 : Int32) (hx0 : isH x0) (hx2 : isH x2) (I : MI) (L : ML) (res : Bool × MI × ML) (h : f_X9_holds_16 x0 x1 x2 x3 x4 y0 I L = some res) : E g 2 0 mX9_holds 16 [(0, .ref (x0 + 5)), (1, .int x1), (2, .ref x2), (3, .int x3), (4, .int (bI x4))] [.int y0] (I, L) (.inl (some (.int (bI res.1)))) (res.2.1, res.2.2) := by
  unfold f_X9_holds_16 at h
  refine E_istore (M := mX9_holds) (lv' := [(5, .int y0), (0, .ref (x0 + 5)), (1, .int x1), (2, .ref x2), (3, .int x3), (4, .int (bI x4))]) 18 rfl dX9_holds_16 (Nat.le_of_ble_eq_true rfl) rfl ?_
  refine E_iconst (M := mX9_holds) (v := 0) 19 rfl dX9_holds_18 (by decide) ?_
  refine E_istore (M := mX9_holds) (lv' := [(6, .int 0), (5, .int y0), (0, .ref (x0 + 5)), (1, .int x1), (2, .ref x2), (3, .int x3), (4, .int (bI x4))]) 21 rfl dX9_holds_19 (Nat.le_of_ble_eq_true rfl) rfl ?_
  refine E_iload (M := mX9_holds) 23 rfl dX9_holds_21 1 rfl ?_
  refine E_istore (M := mX9_holds) (lv' := [(7, .int y0), (6, .int 0), (5, .int y0), (0, .ref (x0 + 5)), (1, .int x1), (2, .ref x2), (3, .int x3), (4, .int (bI x4))]) 25 rfl dX9_holds_23 (Nat.le_of_ble_eq_true rfl) rfl ?_
  refine E_sub (M := mX9_holds) (lv' := [(0, .ref (x0 + 5)), (1, .int x1), (2, .ref x2), (3, .int x3), (4, .int (bI x4)), (6, .int 0), (7, .int y0)]) [3, 4, 5, 6, 7, 1, 0] rfl ?_
  exact S_X9_holds_25 FU x0 x1 x2 x3 x4 0 y0 hx0 hx2 I L _ h
def f_X9_holds (x0 : Nat) (x1 : Int32) (x2 : Nat) (x3 : Int32) (x4 : Bool) (I : MI) (L : ML) : Option (Bool × MI × ML) := if x1 = 0 then (f_X9_holds_16 x0 x1 x2 x3 x4 0 I L) else (Option.bind (ldI I (x0 + 8) 12 (x1 - 1)) fun v2 => f_X9_holds_16 x0 x1 x2 x3 x4 v2 I L)
set_option maxRecDepth 100000 in
theorem S_X9_holds {g : Gx} (x0 : Nat) (x1 : Int32) (x2 : Nat) (x3 : Int32) (x4 : Bool) (hx0 : isH x0) (hx2 : isH x2) (I : MI) (L : ML) (res : Bool × MI × ML) (h : f_X9_holds x0 x1 x2 x3 x4 I L = some res) : E g 2 0 mX9_holds 0 [(0, .ref (x0 + 5)), (1, .int x1), (2, .ref x2), (3, .int x3), (4, .int (bI x4))] [] (I, L) (.inl (some (.int (bI res.1)))) (res.2.1, res.2.2) := by
  unfold f_X9_holds at h
  refine E_iload_n (M := mX9_holds) 1 rfl dX9_holds_0 rfl 1 rfl ?_
  refine E_if_ne (M := mX9_holds) 8 4 (by decide) rfl dX9_holds_1 (fun c1 => ?_) (fun c1 => ?_)
  · rw [if_neg c1] at h
    refine E_aload_n (M := mX9_holds) 9 rfl dX9_holds_8 rfl 0 rfl ?_
    refine E_gR (M := mX9_holds) (x0 + 8) 12 rfl dX9_holds_9 (sh_H5 hx0) fl_X9_18 rfl (rt_W2 hx0) (H_lt hx0 8 (by decide)) ?_
    refine E_iload_n (M := mX9_holds) 13 rfl dX9_holds_12 rfl 1 rfl ?_
    refine E_iconst (M := mX9_holds) (v := 1) 14 rfl dX9_holds_13 (by decide) ?_
    refine E_isub (M := mX9_holds) 15 rfl dX9_holds_14 ?_
    replace h := Option.bind_eq_some_iff.mp h
    obtain ⟨v2, hv2, h⟩ := h
    refine E_ldI (M := mX9_holds) 16 rfl dX9_holds_15 (sh_H8 hx0) hv2 ?_
    refine E_sub (M := mX9_holds) (lv' := [(0, .ref (x0 + 5)), (1, .int x1), (2, .ref x2), (3, .int x3), (4, .int (bI x4))]) [0, 1, 2, 3, 4] rfl ?_
    exact S_X9_holds_16 x0 x1 x2 x3 x4 v2 hx0 hx2 I L _ h
  · rw [if_pos c1] at h
    refine E_iconst (M := mX9_holds) (v := 0) 5 rfl dX9_holds_4 (by decide) ?_
    refine E_goto (M := mX9_holds) 16 (by decide) dX9_holds_5 ?_
    refine E_sub (M := mX9_holds) (lv' := [(0, .ref (x0 + 5)), (1, .int x1), (2, .ref x2), (3, .int x3), (4, .int (bI x4))]) [0, 1, 2, 3, 4] rfl ?_
    exact S_X9_holds_16 x0 x1 x2 x3 x4 0 hx0 hx2 I L _ h
theorem C_X9_holds {g : Gx} {x0 : Nat} {x1 : Int32} {x2 : Nat} {x3 : Int32} {x4 : Bool} (hx0 : isH x0) (hx2 : isH x2) {I : MI} {L : ML} {res : Bool × MI × ML} (h : f_X9_holds x0 x1 x2 x3 x4 I L = some res) : Ent g 2 0 mX9_holds [.ref (x0 + 5), .int x1, .ref x2, .int x3, .int (bI x4)] (I, L) (.inl (some (.int (bI res.1)))) (res.2.1, res.2.2) := Ent_of (by decide +kernel) (Nat.le_of_ble_eq_true rfl) (S_X9_holds x0 x1 x2 x3 x4 hx0 hx2 I L _ h)
def f_X9_titleOf_64 (k6 : Nat → Nat → Int32 → Int32 → Bool → Int32 → Int32 → MI → ML → Option (Int32 × MI × ML)) (x0 : Nat) (x1 : Nat) (x2 : Int32) (x3 : Int32) (x4 : Bool) (x5 : Int32) (x6 : Int32) (I : MI) (L : ML) : Option (Int32 × MI × ML) := k6 x0 x1 x2 x3 x4 x5 (x6 + 1) I L
set_option maxRecDepth 100000 in
theorem S_X9_titleOf_64 {g : Gx} {k6 : Nat → Nat → Int32 → Int32 → Bool → Int32 → Int32 → MI → ML → Option (Int32 × MI × ML)} (hk6 : ∀ (x0z : Nat) (x1z : Nat) (x2z : Int32) (x3z : Int32) (x4z : Bool) (x5z : Int32) (x6z : Int32) (hx0z : isH x0z) (hx1z : isH x1z) (I : MI) (L : ML) (res : Int32 × MI × ML), k6 x0z x1z x2z x3z x4z x5z x6z I L = some res → E g 3 0 mX9_titleOf 6 [(0, .ref (x0z + 5)), (1, .ref x1z), (2, .int x2z), (3, .int x3z), (4, .int (bI x4z)), (5, .int x5z), (6, .int x6z)] [] (I, L) (.inl (some (.int res.1))) (res.2.1, res.2.2)) (x0 : Nat) (x1 : Nat) (x2 : Int32) (x3 : Int32) (x4 : Bool) (x5 : Int32) (x6 : Int32) (hx0 : isH x0) (hx1 : isH x1) (I : MI) (L : ML) (res : Int32 × MI × ML) (h : f_X9_titleOf_64 k6 x0 x1 x2 x3 x4 x5 x6 I L = some res) : E g 3 0 mX9_titleOf 64 [(0, .ref (x0 + 5)), (1, .ref x1), (2, .int x2), (3, .int x3), (4, .int (bI x4)), (5, .int x5), (6, .int x6)] [] (I, L) (.inl (some (.int res.1))) (res.2.1, res.2.2) := by
  unfold f_X9_titleOf_64 at h
  refine E_iinc (M := mX9_titleOf) (j := 6) (v := x6 + 1) (lv' := [(6, .int (x6 + 1)), (0, .ref (x0 + 5)), (1, .ref x1), (2, .int x2), (3, .int x3), (4, .int (bI x4)), (5, .int x5)]) 67 rfl dX9_titleOf_64 rfl rfl (Nat.le_of_ble_eq_true rfl) rfl ?_
  refine E_goto (M := mX9_titleOf) 6 (by decide) dX9_titleOf_67 ?_
  refine E_sub (M := mX9_titleOf) (lv' := [(0, .ref (x0 + 5)), (1, .ref x1), (2, .int x2), (3, .int x3), (4, .int (bI x4)), (5, .int x5), (6, .int (x6 + 1))]) [1, 2, 3, 4, 5, 6, 0] rfl ?_
  exact hk6 x0 x1 x2 x3 x4 x5 (x6 + 1) hx0 hx1 I L _ h
def f_X9_titleOf_6 : Nat → Nat → Nat → Int32 → Int32 → Bool → Int32 → Int32 → MI → ML → Option (Int32 × MI × ML)
  | 0, _, _, _, _, _, _, _, _, _ => none
  | n + 1, x0, x1, x2, x3, x4, x5, x6, I, L => if (I (x0 + 5) 4) ≤ x6 then (some (x5, I, L)) else (Option.bind (ldI I (x0 + 6) 12 x6) fun v2 => if v2 = x2 then (Option.bind (f_X9_holds x0 x6 x1 x3 x4 I L) fun w4 => if w4.1 = true then (Option.bind (ldI w4.2.1 (x0 + 7) 12 x6) fun v6 => if v6 = ((-1)) then (some (0, w4.2.1, w4.2.2)) else (Option.bind (ldI w4.2.1 (x0 + 7) 12 x6) fun v8 => f_X9_titleOf_64 (f_X9_titleOf_6 n) x0 x1 x2 x3 x4 (x5 + v8) x6 w4.2.1 w4.2.2)) else (f_X9_titleOf_64 (f_X9_titleOf_6 n) x0 x1 x2 x3 x4 x5 x6 w4.2.1 w4.2.2)) else (f_X9_titleOf_64 (f_X9_titleOf_6 n) x0 x1 x2 x3 x4 x5 x6 I L))
set_option maxRecDepth 100000 in
theorem S_X9_titleOf_6 {g : Gx} : ∀ (n : Nat) (x0 : Nat) (x1 : Nat) (x2 : Int32) (x3 : Int32) (x4 : Bool) (x5 : Int32) (x6 : Int32) (hx0 : isH x0) (hx1 : isH x1) (I : MI) (L : ML) (res : Int32 × MI × ML), f_X9_titleOf_6 n x0 x1 x2 x3 x4 x5 x6 I L = some res → E g 3 0 mX9_titleOf 6 [(0, .ref (x0 + 5)), (1, .ref x1), (2, .int x2), (3, .int x3), (4, .int (bI x4)), (5, .int x5), (6, .int x6)] [] (I, L) (.inl (some (.int res.1))) (res.2.1, res.2.2) := by
  intro n
  induction n with
  | zero =>
    intros
    rename_i h
    cases h
  | succ n ih =>
    intro x0 x1 x2 x3 x4 x5 x6 hx0 hx1 I L res h
    rw [f_X9_titleOf_6] at h
    refine E_iload (M := mX9_titleOf) 8 rfl dX9_titleOf_6 6 rfl ?_
    refine E_aload_n (M := mX9_titleOf) 9 rfl dX9_titleOf_8 rfl 0 rfl ?_
    refine E_gI (M := mX9_titleOf) 12 rfl dX9_titleOf_9 (sh_H5 hx0) fl_X9_24 rfl ?_
    refine E_icmp_ge (M := mX9_titleOf) 70 15 (by decide) rfl dX9_titleOf_12 (fun c1 => ?_) (fun c1 => ?_)
    · rw [if_pos c1] at h
      refine E_iload (M := mX9_titleOf) 72 rfl dX9_titleOf_70 5 rfl ?_
      cases h
      exact E_iret (M := mX9_titleOf) rfl dX9_titleOf_72
    · rw [if_neg c1] at h
      refine E_aload_n (M := mX9_titleOf) 16 rfl dX9_titleOf_15 rfl 0 rfl ?_
      refine E_gR (M := mX9_titleOf) (x0 + 6) 19 rfl dX9_titleOf_16 (sh_H5 hx0) fl_X9_9 rfl (rt_W0 hx0) (H_lt hx0 6 (by decide)) ?_
      refine E_iload (M := mX9_titleOf) 21 rfl dX9_titleOf_19 6 rfl ?_
      replace h := Option.bind_eq_some_iff.mp h
      obtain ⟨v2, hv2, h⟩ := h
      refine E_ldI (M := mX9_titleOf) 22 rfl dX9_titleOf_21 (sh_H6 hx0) hv2 ?_
      refine E_iload_n (M := mX9_titleOf) 23 rfl dX9_titleOf_22 rfl 2 rfl ?_
      refine E_icmp_ne (M := mX9_titleOf) 64 26 (by decide) rfl dX9_titleOf_23 (fun c3 => ?_) (fun c3 => ?_)
      · rw [if_neg c3] at h
        refine E_sub (M := mX9_titleOf) (lv' := [(0, .ref (x0 + 5)), (1, .ref x1), (2, .int x2), (3, .int x3), (4, .int (bI x4)), (5, .int x5), (6, .int x6)]) [0, 1, 2, 3, 4, 5, 6] rfl ?_
        exact S_X9_titleOf_64 ih x0 x1 x2 x3 x4 x5 x6 hx0 hx1 I L _ h
      · rw [if_pos c3] at h
        refine E_aload_n (M := mX9_titleOf) 27 rfl dX9_titleOf_26 rfl 0 rfl ?_
        refine E_iload (M := mX9_titleOf) 29 rfl dX9_titleOf_27 6 rfl ?_
        refine E_aload_n (M := mX9_titleOf) 30 rfl dX9_titleOf_29 rfl 1 rfl ?_
        refine E_iload_n (M := mX9_titleOf) 31 rfl dX9_titleOf_30 rfl 3 rfl ?_
        refine E_iload (M := mX9_titleOf) 33 rfl dX9_titleOf_31 4 rfl ?_
        replace h := Option.bind_eq_some_iff.mp h
        obtain ⟨w4, hw4, h⟩ := h
        refine E_cV1 (M := mX9_titleOf) (As := [.int x6, .ref x1, .int x3, .int (bI x4)]) 36 rfl dX9_titleOf_33 (sh_H5 hx0) ck_X9_40 cv_X9_holds rfl (by decide) (Nat.le_of_ble_eq_true rfl) (C_X9_holds (g := g) hx0 hx1 hw4) rfl ?_
        refine E_if_eqB (M := mX9_titleOf) 64 39 (by decide) rfl dX9_titleOf_36 (fun c5 => ?_) (fun c5 => ?_)
        · rw [if_neg (by rw [c5]; decide)] at h
          refine E_sub (M := mX9_titleOf) (lv' := [(0, .ref (x0 + 5)), (1, .ref x1), (2, .int x2), (3, .int x3), (4, .int (bI x4)), (5, .int x5), (6, .int x6)]) [0, 1, 2, 3, 4, 5, 6] rfl ?_
          exact S_X9_titleOf_64 ih x0 x1 x2 x3 x4 x5 x6 hx0 hx1 w4.2.1 w4.2.2 _ h
        · rw [if_pos c5] at h
          refine E_aload_n (M := mX9_titleOf) 40 rfl dX9_titleOf_39 rfl 0 rfl ?_
          refine E_gR (M := mX9_titleOf) (x0 + 7) 43 rfl dX9_titleOf_40 (sh_H5 hx0) fl_X9_15 rfl (rt_W1 hx0) (H_lt hx0 7 (by decide)) ?_
          refine E_iload (M := mX9_titleOf) 45 rfl dX9_titleOf_43 6 rfl ?_
          replace h := Option.bind_eq_some_iff.mp h
          obtain ⟨v6, hv6, h⟩ := h
          refine E_ldI (M := mX9_titleOf) 46 rfl dX9_titleOf_45 (sh_H7 hx0) hv6 ?_
          refine E_iconst (M := mX9_titleOf) (v := (-1)) 47 rfl dX9_titleOf_46 (by decide) ?_
          refine E_icmp_ne (M := mX9_titleOf) 52 50 (by decide) rfl dX9_titleOf_47 (fun c7 => ?_) (fun c7 => ?_)
          · rw [if_neg c7] at h
            refine E_iload (M := mX9_titleOf) 54 rfl dX9_titleOf_52 5 rfl ?_
            refine E_aload_n (M := mX9_titleOf) 55 rfl dX9_titleOf_54 rfl 0 rfl ?_
            refine E_gR (M := mX9_titleOf) (x0 + 7) 58 rfl dX9_titleOf_55 (sh_H5 hx0) fl_X9_15 rfl (rt_W1 hx0) (H_lt hx0 7 (by decide)) ?_
            refine E_iload (M := mX9_titleOf) 60 rfl dX9_titleOf_58 6 rfl ?_
            replace h := Option.bind_eq_some_iff.mp h
            obtain ⟨v8, hv8, h⟩ := h
            refine E_ldI (M := mX9_titleOf) 61 rfl dX9_titleOf_60 (sh_H7 hx0) hv8 ?_
            refine E_iadd (M := mX9_titleOf) 62 rfl dX9_titleOf_61 ?_
            refine E_istore (M := mX9_titleOf) (lv' := [(5, .int (x5 + v8)), (0, .ref (x0 + 5)), (1, .ref x1), (2, .int x2), (3, .int x3), (4, .int (bI x4)), (6, .int x6)]) 64 rfl dX9_titleOf_62 (Nat.le_of_ble_eq_true rfl) rfl ?_
            refine E_sub (M := mX9_titleOf) (lv' := [(0, .ref (x0 + 5)), (1, .ref x1), (2, .int x2), (3, .int x3), (4, .int (bI x4)), (5, .int (x5 + v8)), (6, .int x6)]) [1, 2, 3, 4, 5, 0, 6] rfl ?_
            exact S_X9_titleOf_64 ih x0 x1 x2 x3 x4 (x5 + v8) x6 hx0 hx1 w4.2.1 w4.2.2 _ h
          · rw [if_pos c7] at h
            refine E_iconst (M := mX9_titleOf) (v := 0) 51 rfl dX9_titleOf_50 (by decide) ?_
            cases h
            exact E_iret (M := mX9_titleOf) rfl dX9_titleOf_51
def f_X9_titleOf (x0 : Nat) (x1 : Nat) (x2 : Int32) (x3 : Int32) (x4 : Bool) (I : MI) (L : ML) : Option (Int32 × MI × ML) := f_X9_titleOf_6 FU x0 x1 x2 x3 x4 0 0 I L
set_option maxRecDepth 100000 in
theorem S_X9_titleOf {g : Gx} (x0 : Nat) (x1 : Nat) (x2 : Int32) (x3 : Int32) (x4 : Bool) (hx0 : isH x0) (hx1 : isH x1) (I : MI) (L : ML) (res : Int32 × MI × ML) (h : f_X9_titleOf x0 x1 x2 x3 x4 I L = some res) : E g 3 0 mX9_titleOf 0 [(0, .ref (x0 + 5)), (1, .ref x1), (2, .int x2), (3, .int x3), (4, .int (bI x4))] [] (I, L) (.inl (some (.int res.1))) (res.2.1, res.2.2) := by
  unfold f_X9_titleOf at h
  refine E_iconst (M := mX9_titleOf) (v := 0) 1 rfl dX9_titleOf_0 (by decide) ?_
  refine E_istore (M := mX9_titleOf) (lv' := [(5, .int 0), (0, .ref (x0 + 5)), (1, .ref x1), (2, .int x2), (3, .int x3), (4, .int (bI x4))]) 3 rfl dX9_titleOf_1 (Nat.le_of_ble_eq_true rfl) rfl ?_
  refine E_iconst (M := mX9_titleOf) (v := 0) 4 rfl dX9_titleOf_3 (by decide) ?_
  refine E_istore (M := mX9_titleOf) (lv' := [(6, .int 0), (5, .int 0), (0, .ref (x0 + 5)), (1, .ref x1), (2, .int x2), (3, .int x3), (4, .int (bI x4))]) 6 rfl dX9_titleOf_4 (Nat.le_of_ble_eq_true rfl) rfl ?_
  refine E_sub (M := mX9_titleOf) (lv' := [(0, .ref (x0 + 5)), (1, .ref x1), (2, .int x2), (3, .int x3), (4, .int (bI x4)), (5, .int 0), (6, .int 0)]) [2, 3, 4, 5, 6, 1, 0] rfl ?_
  exact S_X9_titleOf_6 FU x0 x1 x2 x3 x4 0 0 hx0 hx1 I L _ h
theorem C_X9_titleOf {g : Gx} {x0 : Nat} {x1 : Nat} {x2 : Int32} {x3 : Int32} {x4 : Bool} (hx0 : isH x0) (hx1 : isH x1) {I : MI} {L : ML} {res : Int32 × MI × ML} (h : f_X9_titleOf x0 x1 x2 x3 x4 I L = some res) : Ent g 3 0 mX9_titleOf [.ref (x0 + 5), .ref x1, .int x2, .int x3, .int (bI x4)] (I, L) (.inl (some (.int res.1))) (res.2.1, res.2.2) := Ent_of (by decide +kernel) (Nat.le_of_ble_eq_true rfl) (S_X9_titleOf x0 x1 x2 x3 x4 hx0 hx1 I L _ h)
def f_X9_clear (x0 : Nat) (I : MI) (L : ML) : Option (MI × ML) := Option.bind (pfI I (x0 + 5) 4 0) fun I1 => Option.bind (pfI I1 (x0 + 5) 5 0) fun I2 => some (I2, L)
set_option maxRecDepth 100000 in
theorem S_X9_clear {g : Gx} (x0 : Nat) (hx0 : isH x0) (I : MI) (L : ML) (res : MI × ML) (h : f_X9_clear x0 I L = some res) : E g 1 0 mX9_clear 0 [(0, .ref (x0 + 5))] [] (I, L) (.inl none) (res.1, res.2) := by
  unfold f_X9_clear at h
  refine E_aload_n (M := mX9_clear) 1 rfl dX9_clear_0 rfl 0 rfl ?_
  refine E_iconst (M := mX9_clear) (v := 0) 2 rfl dX9_clear_1 (by decide) ?_
  replace h := Option.bind_eq_some_iff.mp h
  obtain ⟨I1, hI1, h⟩ := h
  refine E_pfI (M := mX9_clear) 5 rfl dX9_clear_2 (sh_H5 hx0) fl_X9_24 rfl hI1 ?_
  refine E_aload_n (M := mX9_clear) 6 rfl dX9_clear_5 rfl 0 rfl ?_
  refine E_iconst (M := mX9_clear) (v := 0) 7 rfl dX9_clear_6 (by decide) ?_
  replace h := Option.bind_eq_some_iff.mp h
  obtain ⟨I2, hI2, h⟩ := h
  refine E_pfI (M := mX9_clear) 10 rfl dX9_clear_7 (sh_H5 hx0) fl_X9_28 rfl hI2 ?_
  cases h
  exact E_vret (M := mX9_clear) rfl dX9_clear_10
theorem C_X9_clear {g : Gx} {x0 : Nat} (hx0 : isH x0) {I : MI} {L : ML} {res : MI × ML} (h : f_X9_clear x0 I L = some res) : Ent g 1 0 mX9_clear [.ref (x0 + 5)] (I, L) (.inl none) (res.1, res.2) := Ent_of (by decide +kernel) (Nat.le_of_ble_eq_true rfl) (S_X9_clear x0 hx0 I L _ h)
def f_X9_addCode_30 (I : MI) (L : ML) : Option (MI × ML) := some (I, L)
set_option maxRecDepth 100000 in
theorem S_X9_addCode_30 {g : Gx} (I : MI) (L : ML) (res : MI × ML) (h : f_X9_addCode_30 I L = some res) : E g 1 0 mX9_addCode 30 [] [] (I, L) (.inl none) (res.1, res.2) := by
  unfold f_X9_addCode_30 at h
  cases h
  exact E_vret (M := mX9_addCode) rfl dX9_addCode_30
def f_X9_addCode (x0 : Nat) (x1 : Int32) (I : MI) (L : ML) : Option (MI × ML) := if 400 ≤ (I (x0 + 5) 5) then (f_X9_addCode_30 I L) else (Option.bind (stI I (x0 + 9) 400 (I (x0 + 5) 5) x1) fun I2 => Option.bind (pfI I2 (x0 + 5) 5 ((I2 (x0 + 5) 5) + 1)) fun I3 => f_X9_addCode_30 I3 L)
set_option maxRecDepth 100000 in
theorem S_X9_addCode {g : Gx} (x0 : Nat) (x1 : Int32) (hx0 : isH x0) (I : MI) (L : ML) (res : MI × ML) (h : f_X9_addCode x0 x1 I L = some res) : E g 1 0 mX9_addCode 0 [(0, .ref (x0 + 5)), (1, .int x1)] [] (I, L) (.inl none) (res.1, res.2) := by
  unfold f_X9_addCode at h
  refine E_aload_n (M := mX9_addCode) 1 rfl dX9_addCode_0 rfl 0 rfl ?_
  refine E_gI (M := mX9_addCode) 4 rfl dX9_addCode_1 (sh_H5 hx0) fl_X9_28 rfl ?_
  refine E_sipush (M := mX9_addCode) (v := 400) 7 rfl dX9_addCode_4 (by decide) ?_
  refine E_icmp_ge (M := mX9_addCode) 30 10 (by decide) rfl dX9_addCode_7 (fun c1 => ?_) (fun c1 => ?_)
  · rw [if_pos c1] at h
    refine E_sub (M := mX9_addCode) (lv' := []) [] rfl ?_
    exact S_X9_addCode_30 I L _ h
  · rw [if_neg c1] at h
    refine E_aload_n (M := mX9_addCode) 11 rfl dX9_addCode_10 rfl 0 rfl ?_
    refine E_gR (M := mX9_addCode) (x0 + 9) 14 rfl dX9_addCode_11 (sh_H5 hx0) fl_X9_21 rfl (rt_W3 hx0) (H_lt hx0 9 (by decide)) ?_
    refine E_aload_n (M := mX9_addCode) 15 rfl dX9_addCode_14 rfl 0 rfl ?_
    refine E_gI (M := mX9_addCode) 18 rfl dX9_addCode_15 (sh_H5 hx0) fl_X9_28 rfl ?_
    refine E_iload_n (M := mX9_addCode) 19 rfl dX9_addCode_18 rfl 1 rfl ?_
    replace h := Option.bind_eq_some_iff.mp h
    obtain ⟨I2, hI2, h⟩ := h
    refine E_stI (M := mX9_addCode) 20 rfl dX9_addCode_19 (sh_H9 hx0) hI2 ?_
    refine E_aload_n (M := mX9_addCode) 21 rfl dX9_addCode_20 rfl 0 rfl ?_
    refine E_dup (M := mX9_addCode) 22 rfl dX9_addCode_21 rfl ?_
    refine E_gI (M := mX9_addCode) 25 rfl dX9_addCode_22 (sh_H5 hx0) fl_X9_28 rfl ?_
    refine E_iconst (M := mX9_addCode) (v := 1) 26 rfl dX9_addCode_25 (by decide) ?_
    refine E_iadd (M := mX9_addCode) 27 rfl dX9_addCode_26 ?_
    replace h := Option.bind_eq_some_iff.mp h
    obtain ⟨I3, hI3, h⟩ := h
    refine E_pfI (M := mX9_addCode) 30 rfl dX9_addCode_27 (sh_H5 hx0) fl_X9_28 rfl hI3 ?_
    refine E_sub (M := mX9_addCode) (lv' := []) [] rfl ?_
    exact S_X9_addCode_30 I3 L _ h
theorem C_X9_addCode {g : Gx} {x0 : Nat} {x1 : Int32} (hx0 : isH x0) {I : MI} {L : ML} {res : MI × ML} (h : f_X9_addCode x0 x1 I L = some res) : Ent g 1 0 mX9_addCode [.ref (x0 + 5), .int x1] (I, L) (.inl none) (res.1, res.2) := Ent_of (by decide +kernel) (Nat.le_of_ble_eq_true rfl) (S_X9_addCode x0 x1 hx0 I L _ h)
def f_X9_addLine_59 (I : MI) (L : ML) : Option (MI × ML) := some (I, L)
set_option maxRecDepth 100000 in
theorem S_X9_addLine_59 {g : Gx} (I : MI) (L : ML) (res : MI × ML) (h : f_X9_addLine_59 I L = some res) : E g 1 0 mX9_addLine 59 [] [] (I, L) (.inl none) (res.1, res.2) := by
  unfold f_X9_addLine_59 at h
  cases h
  exact E_vret (M := mX9_addLine) rfl dX9_addLine_59
def f_X9_addLine (x0 : Nat) (x1 : Int32) (x2 : Int32) (I : MI) (L : ML) : Option (MI × ML) := if (I (x0 + 5) 4) < 0 then (f_X9_addLine_59 I L) else (if 12 ≤ (I (x0 + 5) 4) then (f_X9_addLine_59 I L) else (Option.bind (stI I (x0 + 6) 12 (I (x0 + 5) 4) x1) fun I3 => Option.bind (stI I3 (x0 + 7) 12 (I3 (x0 + 5) 4) x2) fun I4 => Option.bind (stI I4 (x0 + 8) 12 (I4 (x0 + 5) 4) (I4 (x0 + 5) 5)) fun I5 => Option.bind (pfI I5 (x0 + 5) 4 ((I5 (x0 + 5) 4) + 1)) fun I6 => f_X9_addLine_59 I6 L))
set_option maxRecDepth 100000 in
theorem S_X9_addLine {g : Gx} (x0 : Nat) (x1 : Int32) (x2 : Int32) (hx0 : isH x0) (I : MI) (L : ML) (res : MI × ML) (h : f_X9_addLine x0 x1 x2 I L = some res) : E g 1 0 mX9_addLine 0 [(0, .ref (x0 + 5)), (1, .int x1), (2, .int x2)] [] (I, L) (.inl none) (res.1, res.2) := by
  unfold f_X9_addLine at h
  refine E_aload_n (M := mX9_addLine) 1 rfl dX9_addLine_0 rfl 0 rfl ?_
  refine E_gI (M := mX9_addLine) 4 rfl dX9_addLine_1 (sh_H5 hx0) fl_X9_24 rfl ?_
  refine E_if_lt (M := mX9_addLine) 59 7 (by decide) rfl dX9_addLine_4 (fun c1 => ?_) (fun c1 => ?_)
  · rw [if_pos c1] at h
    refine E_sub (M := mX9_addLine) (lv' := []) [] rfl ?_
    exact S_X9_addLine_59 I L _ h
  · rw [if_neg c1] at h
    refine E_aload_n (M := mX9_addLine) 8 rfl dX9_addLine_7 rfl 0 rfl ?_
    refine E_gI (M := mX9_addLine) 11 rfl dX9_addLine_8 (sh_H5 hx0) fl_X9_24 rfl ?_
    refine E_bipush (M := mX9_addLine) (v := 12) 13 rfl dX9_addLine_11 (by decide) ?_
    refine E_icmp_ge (M := mX9_addLine) 59 16 (by decide) rfl dX9_addLine_13 (fun c2 => ?_) (fun c2 => ?_)
    · rw [if_pos c2] at h
      refine E_sub (M := mX9_addLine) (lv' := []) [] rfl ?_
      exact S_X9_addLine_59 I L _ h
    · rw [if_neg c2] at h
      refine E_aload_n (M := mX9_addLine) 17 rfl dX9_addLine_16 rfl 0 rfl ?_
      refine E_gR (M := mX9_addLine) (x0 + 6) 20 rfl dX9_addLine_17 (sh_H5 hx0) fl_X9_9 rfl (rt_W0 hx0) (H_lt hx0 6 (by decide)) ?_
      refine E_aload_n (M := mX9_addLine) 21 rfl dX9_addLine_20 rfl 0 rfl ?_
      refine E_gI (M := mX9_addLine) 24 rfl dX9_addLine_21 (sh_H5 hx0) fl_X9_24 rfl ?_
      refine E_iload_n (M := mX9_addLine) 25 rfl dX9_addLine_24 rfl 1 rfl ?_
      replace h := Option.bind_eq_some_iff.mp h
      obtain ⟨I3, hI3, h⟩ := h
      refine E_stI (M := mX9_addLine) 26 rfl dX9_addLine_25 (sh_H6 hx0) hI3 ?_
      refine E_aload_n (M := mX9_addLine) 27 rfl dX9_addLine_26 rfl 0 rfl ?_
      refine E_gR (M := mX9_addLine) (x0 + 7) 30 rfl dX9_addLine_27 (sh_H5 hx0) fl_X9_15 rfl (rt_W1 hx0) (H_lt hx0 7 (by decide)) ?_
      refine E_aload_n (M := mX9_addLine) 31 rfl dX9_addLine_30 rfl 0 rfl ?_
      refine E_gI (M := mX9_addLine) 34 rfl dX9_addLine_31 (sh_H5 hx0) fl_X9_24 rfl ?_
      refine E_iload_n (M := mX9_addLine) 35 rfl dX9_addLine_34 rfl 2 rfl ?_
      replace h := Option.bind_eq_some_iff.mp h
      obtain ⟨I4, hI4, h⟩ := h
      refine E_stI (M := mX9_addLine) 36 rfl dX9_addLine_35 (sh_H7 hx0) hI4 ?_
      refine E_aload_n (M := mX9_addLine) 37 rfl dX9_addLine_36 rfl 0 rfl ?_
      refine E_gR (M := mX9_addLine) (x0 + 8) 40 rfl dX9_addLine_37 (sh_H5 hx0) fl_X9_18 rfl (rt_W2 hx0) (H_lt hx0 8 (by decide)) ?_
      refine E_aload_n (M := mX9_addLine) 41 rfl dX9_addLine_40 rfl 0 rfl ?_
      refine E_gI (M := mX9_addLine) 44 rfl dX9_addLine_41 (sh_H5 hx0) fl_X9_24 rfl ?_
      refine E_aload_n (M := mX9_addLine) 45 rfl dX9_addLine_44 rfl 0 rfl ?_
      refine E_gI (M := mX9_addLine) 48 rfl dX9_addLine_45 (sh_H5 hx0) fl_X9_28 rfl ?_
      replace h := Option.bind_eq_some_iff.mp h
      obtain ⟨I5, hI5, h⟩ := h
      refine E_stI (M := mX9_addLine) 49 rfl dX9_addLine_48 (sh_H8 hx0) hI5 ?_
      refine E_aload_n (M := mX9_addLine) 50 rfl dX9_addLine_49 rfl 0 rfl ?_
      refine E_dup (M := mX9_addLine) 51 rfl dX9_addLine_50 rfl ?_
      refine E_gI (M := mX9_addLine) 54 rfl dX9_addLine_51 (sh_H5 hx0) fl_X9_24 rfl ?_
      refine E_iconst (M := mX9_addLine) (v := 1) 55 rfl dX9_addLine_54 (by decide) ?_
      refine E_iadd (M := mX9_addLine) 56 rfl dX9_addLine_55 ?_
      replace h := Option.bind_eq_some_iff.mp h
      obtain ⟨I6, hI6, h⟩ := h
      refine E_pfI (M := mX9_addLine) 59 rfl dX9_addLine_56 (sh_H5 hx0) fl_X9_24 rfl hI6 ?_
      refine E_sub (M := mX9_addLine) (lv' := []) [] rfl ?_
      exact S_X9_addLine_59 I6 L _ h
theorem C_X9_addLine {g : Gx} {x0 : Nat} {x1 : Int32} {x2 : Int32} (hx0 : isH x0) {I : MI} {L : ML} {res : MI × ML} (h : f_X9_addLine x0 x1 x2 I L = some res) : Ent g 1 0 mX9_addLine [.ref (x0 + 5), .int x1, .int x2] (I, L) (.inl none) (res.1, res.2) := Ent_of (by decide +kernel) (Nat.le_of_ble_eq_true rfl) (S_X9_addLine x0 x1 x2 hx0 I L _ h)
