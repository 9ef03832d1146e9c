def f_X6_weigh_47 (k15 : Nat → Int32 → Int32 → MI → ML → Option (MI × ML)) (x1 : Nat) (x2 : Int32) (x3 : Int32) (y0 : Bool) (I : MI) (L : ML) : Option (MI × ML) := Option.bind (f_X9_titleOf x1 x1 x3 x2 y0 I L) fun w1 => Option.bind (stI w1.2.1 9 6 x3 w1.1) fun I2 => Option.bind (ldI I2 9 6 x3) fun v3 => Option.bind (pfI I2 8 2 ((I2 8 2) + v3)) fun I4 => k15 x1 x2 (x3 + 1) I4 w1.2.2
set_option maxRecDepth 100000 in
theorem S_X6_weigh_47 {g : Gx} {k15 : Nat → Int32 → Int32 → MI → ML → Option (MI × ML)} (hk15 : ∀ (x1z : Nat) (x2z : Int32) (x3z : Int32) (hx1z : isH x1z) (I : MI) (L : ML) (res : MI × ML), k15 x1z x2z x3z I L = some res → E g 7 0 mX6_weigh 15 [(0, .ref 8), (1, .ref x1z), (2, .int x2z), (3, .int x3z)] [] (I, L) (.inl none) (res.1, res.2)) (x1 : Nat) (x2 : Int32) (x3 : Int32) (y0 : Bool) (hx1 : isH x1) (I : MI) (L : ML) (res : MI × ML) (h : f_X6_weigh_47 k15 x1 x2 x3 y0 I L = some res) : E g 7 0 mX6_weigh 47 [(0, .ref 8), (1, .ref x1), (2, .int x2), (3, .int x3)] [.int (bI y0)] (I, L) (.inl none) (res.1, res.2) := by
  unfold f_X6_weigh_47 at h
  refine E_istore (M := mX6_weigh) (lv' := [(4, .int (bI y0)), (0, .ref 8), (1, .ref x1), (2, .int x2), (3, .int x3)]) 49 rfl dX6_weigh_47 (Nat.le_of_ble_eq_true rfl) rfl ?_
  refine E_aload_n (M := mX6_weigh) 50 rfl dX6_weigh_49 rfl 1 rfl ?_
  refine E_gR (M := mX6_weigh) 9 53 rfl dX6_weigh_50 shc_8 fl_X6_15 rfl (by decide) (by decide) ?_
  refine E_iload_n (M := mX6_weigh) 54 rfl dX6_weigh_53 rfl 4 rfl ?_
  refine E_aload_n (M := mX6_weigh) 55 rfl dX6_weigh_54 rfl 2 rfl ?_
  refine E_gR (M := mX6_weigh) (x1 + 5) 58 rfl dX6_weigh_55 (sh_H hx1) fl_X6_45 rfl (rt_H8 hx1) (H_lt hx1 5 (by decide)) ?_
  refine E_aload_n (M := mX6_weigh) 59 rfl dX6_weigh_58 rfl 2 rfl ?_
  refine E_iload_n (M := mX6_weigh) 60 rfl dX6_weigh_59 rfl 4 rfl ?_
  refine E_iload_n (M := mX6_weigh) 61 rfl dX6_weigh_60 rfl 3 rfl ?_
  refine E_iload (M := mX6_weigh) 63 rfl dX6_weigh_61 0 rfl ?_
  replace h := Option.bind_eq_some_iff.mp h
  obtain ⟨w1, hw1, h⟩ := h
  refine E_cV1 (M := mX6_weigh) (As := [.ref x1, .int x3, .int x2, .int (bI y0)]) 66 rfl dX6_weigh_63 (sh_H5 hx1) ck_X6_49 cv_X9_titleOf rfl (by decide) (Nat.le_of_ble_eq_true rfl) (C_X9_titleOf (g := g) hx1 hx1 hw1) rfl ?_
  replace h := Option.bind_eq_some_iff.mp h
  obtain ⟨I2, hI2, h⟩ := h
  refine E_stI (M := mX6_weigh) 67 rfl dX6_weigh_66 shc_9 hI2 ?_
  refine E_aload_n (M := mX6_weigh) 68 rfl dX6_weigh_67 rfl 1 rfl ?_
  refine E_dup (M := mX6_weigh) 69 rfl dX6_weigh_68 rfl ?_
  refine E_gI (M := mX6_weigh) 72 rfl dX6_weigh_69 shc_8 fl_X6_19 rfl ?_
  refine E_aload_n (M := mX6_weigh) 73 rfl dX6_weigh_72 rfl 1 rfl ?_
  refine E_gR (M := mX6_weigh) 9 76 rfl dX6_weigh_73 shc_8 fl_X6_15 rfl (by decide) (by decide) ?_
  refine E_iload_n (M := mX6_weigh) 77 rfl dX6_weigh_76 rfl 4 rfl ?_
  replace h := Option.bind_eq_some_iff.mp h
  obtain ⟨v3, hv3, h⟩ := h
  refine E_ldI (M := mX6_weigh) 78 rfl dX6_weigh_77 shc_9 hv3 ?_
  refine E_iadd (M := mX6_weigh) 79 rfl dX6_weigh_78 ?_
  replace h := Option.bind_eq_some_iff.mp h
  obtain ⟨I4, hI4, h⟩ := h
  refine E_pfI (M := mX6_weigh) 82 rfl dX6_weigh_79 shc_8 fl_X6_19 rfl hI4 ?_
  refine E_iinc (M := mX6_weigh) (j := 4) (v := x3 + 1) (lv' := [(3, .int (x3 + 1)), (4, .int (bI y0)), (0, .ref 8), (1, .ref x1), (2, .int x2)]) 85 rfl dX6_weigh_82 rfl rfl (Nat.le_of_ble_eq_true rfl) rfl ?_
  refine E_goto (M := mX6_weigh) 15 (by decide) dX6_weigh_85 ?_
  refine E_sub (M := mX6_weigh) (lv' := [(0, .ref 8), (1, .ref x1), (2, .int x2), (3, .int (x3 + 1))]) [2, 3, 4, 0] rfl ?_
  exact hk15 x1 x2 (x3 + 1) hx1 I4 w1.2.2 _ h
def f_X6_weigh_15 : Nat → Nat → Int32 → Int32 → MI → ML → Option (MI × ML)
  | 0, _, _, _, _, _ => none
  | n + 1, x1, x2, x3, I, L => if (I 8 0) ≤ x3 then (some (I, L)) else (Option.bind (ldR (x1 + 27) 6 x3) fun v2 => Option.bind (ldR (x1 + 33) 12 x2) fun v3 => Option.bind (f_X3_heardLoudness x1 v2 v3 I L) fun v4 => if v4 ≤ 0 then (f_X6_weigh_47 (f_X6_weigh_15 n) x1 x2 x3 false I L) else (f_X6_weigh_47 (f_X6_weigh_15 n) x1 x2 x3 true I L))
set_option maxRecDepth 100000 in
theorem S_X6_weigh_15 {g : Gx} : ∀ (n : Nat) (x1 : Nat) (x2 : Int32) (x3 : Int32) (hx1 : isH x1) (I : MI) (L : ML) (res : MI × ML), f_X6_weigh_15 n x1 x2 x3 I L = some res → E g 7 0 mX6_weigh 15 [(0, .ref 8), (1, .ref x1), (2, .int x2), (3, .int x3)] [] (I, L) (.inl none) (res.1, res.2) := by
  intro n
  induction n with
  | zero =>
    intros
    rename_i h
    cases h
  | succ n ih =>
    intro x1 x2 x3 hx1 I L res h
    rw [f_X6_weigh_15] at h
    refine E_iload_n (M := mX6_weigh) 16 rfl dX6_weigh_15 rfl 3 rfl ?_
    refine E_aload_n (M := mX6_weigh) 17 rfl dX6_weigh_16 rfl 0 rfl ?_
    refine E_gI (M := mX6_weigh) 20 rfl dX6_weigh_17 shc_8 fl_X6_9 rfl ?_
    refine E_icmp_ge (M := mX6_weigh) 88 23 (by decide) rfl dX6_weigh_20 (fun c1 => ?_) (fun c1 => ?_)
    · rw [if_pos c1] at h
      cases h
      exact E_vret (M := mX6_weigh) rfl dX6_weigh_88
    · rw [if_neg c1] at h
      refine E_aload_n (M := mX6_weigh) 24 rfl dX6_weigh_23 rfl 1 rfl ?_
      refine E_aload_n (M := mX6_weigh) 25 rfl dX6_weigh_24 rfl 1 rfl ?_
      refine E_gR (M := mX6_weigh) (x1 + 3) 28 rfl dX6_weigh_25 (sh_H hx1) fl_X6_33 rfl (rt_H6 hx1) (H_lt hx1 3 (by decide)) ?_
      refine E_iload_n (M := mX6_weigh) 29 rfl dX6_weigh_28 rfl 3 rfl ?_
      replace h := Option.bind_eq_some_iff.mp h
      obtain ⟨v2, hv2, h⟩ := h
      refine E_ldE (M := mX6_weigh) hx1 30 rfl dX6_weigh_29 hv2 ?_
      refine E_aload_n (M := mX6_weigh) 31 rfl dX6_weigh_30 rfl 1 rfl ?_
      refine E_gR (M := mX6_weigh) (x1 + 4) 34 rfl dX6_weigh_31 (sh_H hx1) fl_X6_37 rfl (rt_H7 hx1) (H_lt hx1 4 (by decide)) ?_
      refine E_iload_n (M := mX6_weigh) 35 rfl dX6_weigh_34 rfl 2 rfl ?_
      replace h := Option.bind_eq_some_iff.mp h
      obtain ⟨v3, hv3, h⟩ := h
      refine E_ldN (M := mX6_weigh) hx1 36 rfl dX6_weigh_35 hv3 ?_
      replace h := Option.bind_eq_some_iff.mp h
      obtain ⟨v4, hv4, h⟩ := h
      refine E_cV1 (M := mX6_weigh) (As := [.ref v2, .ref v3]) 39 rfl dX6_weigh_36 (sh_H hx1) ck_X6_41 cv_X3_heardLoudness rfl (by decide) (Nat.le_of_ble_eq_true rfl) (C_X3_heardLoudness (g := g) hx1 (isE_ld hx1 hv2) (isN_ld hx1 hv3) hv4) rfl ?_
      refine E_if_le (M := mX6_weigh) 46 42 (by decide) rfl dX6_weigh_39 (fun c5 => ?_) (fun c5 => ?_)
      · rw [if_pos c5] at h
        refine E_iconst (M := mX6_weigh) (v := 0) 47 rfl dX6_weigh_46 (by decide) ?_
        refine E_sub (M := mX6_weigh) (lv' := [(0, .ref 8), (1, .ref x1), (2, .int x2), (3, .int x3)]) [0, 1, 2, 3] rfl ?_
        exact S_X6_weigh_47 ih x1 x2 x3 false hx1 I L _ h
      · rw [if_neg c5] at h
        refine E_iconst (M := mX6_weigh) (v := 1) 43 rfl dX6_weigh_42 (by decide) ?_
        refine E_goto (M := mX6_weigh) 47 (by decide) dX6_weigh_43 ?_
        refine E_sub (M := mX6_weigh) (lv' := [(0, .ref 8), (1, .ref x1), (2, .int x2), (3, .int x3)]) [0, 1, 2, 3] rfl ?_
        exact S_X6_weigh_47 ih x1 x2 x3 true hx1 I L _ h
def f_X6_weigh (x1 : Nat) (x2 : Int32) (I : MI) (L : ML) : Option (MI × ML) := Option.bind (pfI I 8 0 (I x1 2)) fun I1 => Option.bind (pfI I1 8 2 0) fun I2 => f_X6_weigh_15 FU x1 x2 0 I2 L
set_option maxRecDepth 100000 in
theorem S_X6_weigh {g : Gx} (x1 : Nat) (x2 : Int32) (hx1 : isH x1) (I : MI) (L : ML) (res : MI × ML) (h : f_X6_weigh x1 x2 I L = some res) : E g 7 0 mX6_weigh 0 [(0, .ref 8), (1, .ref x1), (2, .int x2)] [] (I, L) (.inl none) (res.1, res.2) := by
  unfold f_X6_weigh at h
  refine E_aload_n (M := mX6_weigh) 1 rfl dX6_weigh_0 rfl 0 rfl ?_
  refine E_aload_n (M := mX6_weigh) 2 rfl dX6_weigh_1 rfl 1 rfl ?_
  refine E_gI (M := mX6_weigh) 5 rfl dX6_weigh_2 (sh_H hx1) fl_X6_30 rfl ?_
  replace h := Option.bind_eq_some_iff.mp h
  obtain ⟨I1, hI1, h⟩ := h
  refine E_pfI (M := mX6_weigh) 8 rfl dX6_weigh_5 shc_8 fl_X6_9 rfl hI1 ?_
  refine E_aload_n (M := mX6_weigh) 9 rfl dX6_weigh_8 rfl 0 rfl ?_
  refine E_iconst (M := mX6_weigh) (v := 0) 10 rfl dX6_weigh_9 (by decide) ?_
  replace h := Option.bind_eq_some_iff.mp h
  obtain ⟨I2, hI2, h⟩ := h
  refine E_pfI (M := mX6_weigh) 13 rfl dX6_weigh_10 shc_8 fl_X6_19 rfl hI2 ?_
  refine E_iconst (M := mX6_weigh) (v := 0) 14 rfl dX6_weigh_13 (by decide) ?_
  refine E_istore_n (M := mX6_weigh) (lv' := [(3, .int 0), (0, .ref 8), (1, .ref x1), (2, .int x2)]) 15 rfl dX6_weigh_14 rfl (Nat.le_of_ble_eq_true rfl) rfl ?_
  refine E_sub (M := mX6_weigh) (lv' := [(0, .ref 8), (1, .ref x1), (2, .int x2), (3, .int 0)]) [1, 2, 3, 0] rfl ?_
  exact S_X6_weigh_15 FU x1 x2 0 hx1 I2 L _ h
theorem C_X6_weigh {g : Gx} {x1 : Nat} {x2 : Int32} (hx1 : isH x1) {I : MI} {L : ML} {res : MI × ML} (h : f_X6_weigh x1 x2 I L = some res) : Ent g 7 0 mX6_weigh [.ref 8, .ref x1, .int x2] (I, L) (.inl none) (res.1, res.2) := Ent_of (by decide +kernel) (Nat.le_of_ble_eq_true rfl) (S_X6_weigh x1 x2 hx1 I L _ h)
def f_X6_placeOf_65 (k4 : Int32 → Int32 → Int32 → MI → ML → Option (Int32)) (x1 : Int32) (x3 : Int32) (y0 : Int32) (y1 : Bool) (I : MI) (L : ML) : Option (Int32) := k4 x1 (y0 + (bI y1)) (x3 + 1) I L
set_option maxRecDepth 100000 in
theorem S_X6_placeOf_65 {g : Gx} {k4 : Int32 → Int32 → Int32 → MI → ML → Option (Int32)} (hk4 : ∀ (x1z : Int32) (x2z : Int32) (x3z : Int32) (I : MI) (L : ML) (res : Int32), k4 x1z x2z x3z I L = some res → E g 1 0 mX6_placeOf 4 [(0, .ref 8), (1, .int x1z), (2, .int x2z), (3, .int x3z)] [] (I, L) (.inl (some (.int res))) (I, L)) (x1 : Int32) (x3 : Int32) (y0 : Int32) (y1 : Bool) (I : MI) (L : ML) (res : Int32) (h : f_X6_placeOf_65 k4 x1 x3 y0 y1 I L = some res) : E g 1 0 mX6_placeOf 65 [(0, .ref 8), (1, .int x1), (3, .int x3)] [.int (bI y1), .int y0] (I, L) (.inl (some (.int res))) (I, L) := by
  unfold f_X6_placeOf_65 at h
  refine E_iadd (M := mX6_placeOf) 66 rfl dX6_placeOf_65 ?_
  refine E_istore_n (M := mX6_placeOf) (lv' := [(2, .int (y0 + (bI y1))), (0, .ref 8), (1, .int x1), (3, .int x3)]) 67 rfl dX6_placeOf_66 rfl (Nat.le_of_ble_eq_true rfl) rfl ?_
  refine E_iinc (M := mX6_placeOf) (j := 3) (v := x3 + 1) (lv' := [(3, .int (x3 + 1)), (2, .int (y0 + (bI y1))), (0, .ref 8), (1, .int x1)]) 70 rfl dX6_placeOf_67 rfl rfl (Nat.le_of_ble_eq_true rfl) rfl ?_
  refine E_goto (M := mX6_placeOf) 4 (by decide) dX6_placeOf_70 ?_
  refine E_sub (M := mX6_placeOf) (lv' := [(0, .ref 8), (1, .int x1), (2, .int (y0 + (bI y1))), (3, .int (x3 + 1))]) [2, 3, 1, 0] rfl ?_
  exact hk4 x1 (y0 + (bI y1)) (x3 + 1) I L _ h
def f_X6_placeOf_52 (k4 : Int32 → Int32 → Int32 → MI → ML → Option (Int32)) (x1 : Int32) (x2 : Int32) (x3 : Int32) (y0 : Bool) (I : MI) (L : ML) : Option (Int32) := if y0 = true then (f_X6_placeOf_65 k4 x1 x3 x2 true I L) else (f_X6_placeOf_65 k4 x1 x3 x2 false I L)
set_option maxRecDepth 100000 in
theorem S_X6_placeOf_52 {g : Gx} {k4 : Int32 → Int32 → Int32 → MI → ML → Option (Int32)} (hk4 : ∀ (x1z : Int32) (x2z : Int32) (x3z : Int32) (I : MI) (L : ML) (res : Int32), k4 x1z x2z x3z I L = some res → E g 1 0 mX6_placeOf 4 [(0, .ref 8), (1, .int x1z), (2, .int x2z), (3, .int x3z)] [] (I, L) (.inl (some (.int res))) (I, L)) (x1 : Int32) (x2 : Int32) (x3 : Int32) (y0 : Bool) (I : MI) (L : ML) (res : Int32) (h : f_X6_placeOf_52 k4 x1 x2 x3 y0 I L = some res) : E g 1 0 mX6_placeOf 52 [(0, .ref 8), (1, .int x1), (2, .int x2), (3, .int x3)] [.int (bI y0)] (I, L) (.inl (some (.int res))) (I, L) := by
  unfold f_X6_placeOf_52 at h
  refine E_istore (M := mX6_placeOf) (lv' := [(4, .int (bI y0)), (0, .ref 8), (1, .int x1), (2, .int x2), (3, .int x3)]) 54 rfl dX6_placeOf_52 (Nat.le_of_ble_eq_true rfl) rfl ?_
  refine E_iload_n (M := mX6_placeOf) 55 rfl dX6_placeOf_54 rfl 3 rfl ?_
  refine E_iload (M := mX6_placeOf) 57 rfl dX6_placeOf_55 0 rfl ?_
  refine E_if_eqB (M := mX6_placeOf) 64 60 (by decide) rfl dX6_placeOf_57 (fun c1 => ?_) (fun c1 => ?_)
  · rw [if_neg (by rw [c1]; decide)] at h
    refine E_iconst (M := mX6_placeOf) (v := 0) 65 rfl dX6_placeOf_64 (by decide) ?_
    refine E_sub (M := mX6_placeOf) (lv' := [(0, .ref 8), (1, .int x1), (3, .int x3)]) [1, 2, 4] rfl ?_
    exact S_X6_placeOf_65 hk4 x1 x3 x2 false I L _ h
  · rw [if_pos c1] at h
    refine E_iconst (M := mX6_placeOf) (v := 1) 61 rfl dX6_placeOf_60 (by decide) ?_
    refine E_goto (M := mX6_placeOf) 65 (by decide) dX6_placeOf_61 ?_
    refine E_sub (M := mX6_placeOf) (lv' := [(0, .ref 8), (1, .int x1), (3, .int x3)]) [1, 2, 4] rfl ?_
    exact S_X6_placeOf_65 hk4 x1 x3 x2 true I L _ h
def f_X6_placeOf_51 (k4 : Int32 → Int32 → Int32 → MI → ML → Option (Int32)) (x1 : Int32) (x2 : Int32) (x3 : Int32) (I : MI) (L : ML) : Option (Int32) := f_X6_placeOf_52 k4 x1 x2 x3 false I L
set_option maxRecDepth 100000 in
theorem S_X6_placeOf_51 {g : Gx} {k4 : Int32 → Int32 → Int32 → MI → ML → Option (Int32)} (hk4 : ∀ (x1z : Int32) (x2z : Int32) (x3z : Int32) (I : MI) (L : ML) (res : Int32), k4 x1z x2z x3z I L = some res → E g 1 0 mX6_placeOf 4 [(0, .ref 8), (1, .int x1z), (2, .int x2z), (3, .int x3z)] [] (I, L) (.inl (some (.int res))) (I, L)) (x1 : Int32) (x2 : Int32) (x3 : Int32) (I : MI) (L : ML) (res : Int32) (h : f_X6_placeOf_51 k4 x1 x2 x3 I L = some res) : E g 1 0 mX6_placeOf 51 [(0, .ref 8), (1, .int x1), (2, .int x2), (3, .int x3)] [] (I, L) (.inl (some (.int res))) (I, L) := by
  unfold f_X6_placeOf_51 at h
  refine E_iconst (M := mX6_placeOf) (v := 0) 52 rfl dX6_placeOf_51 (by decide) ?_
  refine E_sub (M := mX6_placeOf) (lv' := [(0, .ref 8), (1, .int x1), (2, .int x2), (3, .int x3)]) [0, 1, 2, 3] rfl ?_
  exact S_X6_placeOf_52 hk4 x1 x2 x3 false I L _ h
def f_X6_placeOf_47 (k4 : Int32 → Int32 → Int32 → MI → ML → Option (Int32)) (x1 : Int32) (x2 : Int32) (x3 : Int32) (I : MI) (L : ML) : Option (Int32) := f_X6_placeOf_52 k4 x1 x2 x3 true I L
set_option maxRecDepth 100000 in
theorem S_X6_placeOf_47 {g : Gx} {k4 : Int32 → Int32 → Int32 → MI → ML → Option (Int32)} (hk4 : ∀ (x1z : Int32) (x2z : Int32) (x3z : Int32) (I : MI) (L : ML) (res : Int32), k4 x1z x2z x3z I L = some res → E g 1 0 mX6_placeOf 4 [(0, .ref 8), (1, .int x1z), (2, .int x2z), (3, .int x3z)] [] (I, L) (.inl (some (.int res))) (I, L)) (x1 : Int32) (x2 : Int32) (x3 : Int32) (I : MI) (L : ML) (res : Int32) (h : f_X6_placeOf_47 k4 x1 x2 x3 I L = some res) : E g 1 0 mX6_placeOf 47 [(0, .ref 8), (1, .int x1), (2, .int x2), (3, .int x3)] [] (I, L) (.inl (some (.int res))) (I, L) := by
  unfold f_X6_placeOf_47 at h
  refine E_iconst (M := mX6_placeOf) (v := 1) 48 rfl dX6_placeOf_47 (by decide) ?_
  refine E_goto (M := mX6_placeOf) 52 (by decide) dX6_placeOf_48 ?_
  refine E_sub (M := mX6_placeOf) (lv' := [(0, .ref 8), (1, .int x1), (2, .int x2), (3, .int x3)]) [0, 1, 2, 3] rfl ?_
  exact S_X6_placeOf_52 hk4 x1 x2 x3 true I L _ h
def f_X6_placeOf_4 : Nat → Int32 → Int32 → Int32 → MI → ML → Option (Int32)
  | 0, _, _, _, _, _ => none
  | n + 1, x1, x2, x3, I, L => if (I 8 0) ≤ x3 then (some x2) else (Option.bind (ldI I 9 6 x3) fun v2 => Option.bind (ldI I 9 6 x1) fun v3 => if v3 < v2 then (f_X6_placeOf_47 (f_X6_placeOf_4 n) x1 x2 x3 I L) else (Option.bind (ldI I 9 6 x3) fun v5 => Option.bind (ldI I 9 6 x1) fun v6 => if v5 = v6 then (if x1 ≤ x3 then (f_X6_placeOf_51 (f_X6_placeOf_4 n) x1 x2 x3 I L) else (f_X6_placeOf_47 (f_X6_placeOf_4 n) x1 x2 x3 I L)) else (f_X6_placeOf_51 (f_X6_placeOf_4 n) x1 x2 x3 I L)))
set_option maxRecDepth 100000 in
theorem S_X6_placeOf_4 {g : Gx} : ∀ (n : Nat) (x1 : Int32) (x2 : Int32) (x3 : Int32) (I : MI) (L : ML) (res : Int32), f_X6_placeOf_4 n x1 x2 x3 I L = some res → E g 1 0 mX6_placeOf 4 [(0, .ref 8), (1, .int x1), (2, .int x2), (3, .int x3)] [] (I, L) (.inl (some (.int res))) (I, L) := by
  intro n
  induction n with
  | zero =>
    intros
    rename_i h
    cases h
  | succ n ih =>
    intro x1 x2 x3 I L res h
    rw [f_X6_placeOf_4] at h
    refine E_iload_n (M := mX6_placeOf) 5 rfl dX6_placeOf_4 rfl 3 rfl ?_
    refine E_aload_n (M := mX6_placeOf) 6 rfl dX6_placeOf_5 rfl 0 rfl ?_
    refine E_gI (M := mX6_placeOf) 9 rfl dX6_placeOf_6 shc_8 fl_X6_9 rfl ?_
    refine E_icmp_ge (M := mX6_placeOf) 73 12 (by decide) rfl dX6_placeOf_9 (fun c1 => ?_) (fun c1 => ?_)
    · rw [if_pos c1] at h
      refine E_iload_n (M := mX6_placeOf) 74 rfl dX6_placeOf_73 rfl 2 rfl ?_
      cases h
      exact E_iret (M := mX6_placeOf) rfl dX6_placeOf_74
    · rw [if_neg c1] at h
      refine E_aload_n (M := mX6_placeOf) 13 rfl dX6_placeOf_12 rfl 0 rfl ?_
      refine E_gR (M := mX6_placeOf) 9 16 rfl dX6_placeOf_13 shc_8 fl_X6_15 rfl (by decide) (by decide) ?_
      refine E_iload_n (M := mX6_placeOf) 17 rfl dX6_placeOf_16 rfl 3 rfl ?_
      replace h := Option.bind_eq_some_iff.mp h
      obtain ⟨v2, hv2, h⟩ := h
      refine E_ldI (M := mX6_placeOf) 18 rfl dX6_placeOf_17 shc_9 hv2 ?_
      refine E_aload_n (M := mX6_placeOf) 19 rfl dX6_placeOf_18 rfl 0 rfl ?_
      refine E_gR (M := mX6_placeOf) 9 22 rfl dX6_placeOf_19 shc_8 fl_X6_15 rfl (by decide) (by decide) ?_
      refine E_iload_n (M := mX6_placeOf) 23 rfl dX6_placeOf_22 rfl 1 rfl ?_
      replace h := Option.bind_eq_some_iff.mp h
      obtain ⟨v3, hv3, h⟩ := h
      refine E_ldI (M := mX6_placeOf) 24 rfl dX6_placeOf_23 shc_9 hv3 ?_
      refine E_icmp_gt (M := mX6_placeOf) 47 27 (by decide) rfl dX6_placeOf_24 (fun c4 => ?_) (fun c4 => ?_)
      · rw [if_pos c4] at h
        refine E_sub (M := mX6_placeOf) (lv' := [(0, .ref 8), (1, .int x1), (2, .int x2), (3, .int x3)]) [0, 1, 2, 3] rfl ?_
        exact S_X6_placeOf_47 ih x1 x2 x3 I L _ h
      · rw [if_neg c4] at h
        refine E_aload_n (M := mX6_placeOf) 28 rfl dX6_placeOf_27 rfl 0 rfl ?_
        refine E_gR (M := mX6_placeOf) 9 31 rfl dX6_placeOf_28 shc_8 fl_X6_15 rfl (by decide) (by decide) ?_
        refine E_iload_n (M := mX6_placeOf) 32 rfl dX6_placeOf_31 rfl 3 rfl ?_
        replace h := Option.bind_eq_some_iff.mp h
        obtain ⟨v5, hv5, h⟩ := h
        refine E_ldI (M := mX6_placeOf) 33 rfl dX6_placeOf_32 shc_9 hv5 ?_
        refine E_aload_n (M := mX6_placeOf) 34 rfl dX6_placeOf_33 rfl 0 rfl ?_
        refine E_gR (M := mX6_placeOf) 9 37 rfl dX6_placeOf_34 shc_8 fl_X6_15 rfl (by decide) (by decide) ?_
        refine E_iload_n (M := mX6_placeOf) 38 rfl dX6_placeOf_37 rfl 1 rfl ?_
        replace h := Option.bind_eq_some_iff.mp h
        obtain ⟨v6, hv6, h⟩ := h
        refine E_ldI (M := mX6_placeOf) 39 rfl dX6_placeOf_38 shc_9 hv6 ?_
        refine E_icmp_ne (M := mX6_placeOf) 51 42 (by decide) rfl dX6_placeOf_39 (fun c7 => ?_) (fun c7 => ?_)
        · rw [if_neg c7] at h
          refine E_sub (M := mX6_placeOf) (lv' := [(0, .ref 8), (1, .int x1), (2, .int x2), (3, .int x3)]) [0, 1, 2, 3] rfl ?_
          exact S_X6_placeOf_51 ih x1 x2 x3 I L _ h
        · rw [if_pos c7] at h
          refine E_iload_n (M := mX6_placeOf) 43 rfl dX6_placeOf_42 rfl 3 rfl ?_
          refine E_iload_n (M := mX6_placeOf) 44 rfl dX6_placeOf_43 rfl 1 rfl ?_
          refine E_icmp_ge (M := mX6_placeOf) 51 47 (by decide) rfl dX6_placeOf_44 (fun c8 => ?_) (fun c8 => ?_)
          · rw [if_pos c8] at h
            refine E_sub (M := mX6_placeOf) (lv' := [(0, .ref 8), (1, .int x1), (2, .int x2), (3, .int x3)]) [0, 1, 2, 3] rfl ?_
            exact S_X6_placeOf_51 ih x1 x2 x3 I L _ h
          · rw [if_neg c8] at h
            refine E_sub (M := mX6_placeOf) (lv' := [(0, .ref 8), (1, .int x1), (2, .int x2), (3, .int x3)]) [0, 1, 2, 3] rfl ?_
            exact S_X6_placeOf_47 ih x1 x2 x3 I L _ h
def f_X6_placeOf (x1 : Int32) (I : MI) (L : ML) : Option (Int32) := f_X6_placeOf_4 FU x1 0 0 I L
set_option maxRecDepth 100000 in
theorem S_X6_placeOf {g : Gx} (x1 : Int32) (I : MI) (L : ML) (res : Int32) (h : f_X6_placeOf x1 I L = some res) : E g 1 0 mX6_placeOf 0 [(0, .ref 8), (1, .int x1)] [] (I, L) (.inl (some (.int res))) (I, L) := by
  unfold f_X6_placeOf at h
  refine E_iconst (M := mX6_placeOf) (v := 0) 1 rfl dX6_placeOf_0 (by decide) ?_
  refine E_istore_n (M := mX6_placeOf) (lv' := [(2, .int 0), (0, .ref 8), (1, .int x1)]) 2 rfl dX6_placeOf_1 rfl (Nat.le_of_ble_eq_true rfl) rfl ?_
  refine E_iconst (M := mX6_placeOf) (v := 0) 3 rfl dX6_placeOf_2 (by decide) ?_
  refine E_istore_n (M := mX6_placeOf) (lv' := [(3, .int 0), (2, .int 0), (0, .ref 8), (1, .int x1)]) 4 rfl dX6_placeOf_3 rfl (Nat.le_of_ble_eq_true rfl) rfl ?_
  refine E_sub (M := mX6_placeOf) (lv' := [(0, .ref 8), (1, .int x1), (2, .int 0), (3, .int 0)]) [2, 3, 1, 0] rfl ?_
  exact S_X6_placeOf_4 FU x1 0 0 I L _ h
theorem C_X6_placeOf {g : Gx} {x1 : Int32} {I : MI} {L : ML} {res : Int32} (h : f_X6_placeOf x1 I L = some res) : Ent g 1 0 mX6_placeOf [.ref 8, .int x1] (I, L) (.inl (some (.int res))) (I, L) := Ent_of (by decide +kernel) (Nat.le_of_ble_eq_true rfl) (S_X6_placeOf x1 I L _ h)
def f_X6_divide_125 (k83 : Int64 → Int32 → MI → ML → Option (MI × ML)) (x3 : Int64) (x5 : Int32) (I : MI) (L : ML) : Option (MI × ML) := k83 x3 (x5 + 1) I L
set_option maxRecDepth 100000 in
theorem S_X6_divide_125 {g : Gx} {k83 : Int64 → Int32 → MI → ML → Option (MI × ML)} (hk83 : ∀ (x3z : Int64) (x5z : Int32) (I : MI) (L : ML) (res : MI × ML), k83 x3z x5z I L = some res → E g 2 0 mX6_divide 83 [(0, .ref 8), (3, .long x3z), (5, .int x5z)] [] (I, L) (.inl none) (res.1, res.2)) (x3 : Int64) (x5 : Int32) (I : MI) (L : ML) (res : MI × ML) (h : f_X6_divide_125 k83 x3 x5 I L = some res) : E g 2 0 mX6_divide 125 [(0, .ref 8), (3, .long x3), (5, .int x5)] [] (I, L) (.inl none) (res.1, res.2) := by
  unfold f_X6_divide_125 at h
  refine E_iinc (M := mX6_divide) (j := 2) (v := x5 + 1) (lv' := [(5, .int (x5 + 1)), (0, .ref 8), (3, .long x3)]) 128 rfl dX6_divide_125 rfl rfl (Nat.le_of_ble_eq_true rfl) rfl ?_
  refine E_goto (M := mX6_divide) 83 (by decide) dX6_divide_128 ?_
  refine E_sub (M := mX6_divide) (lv' := [(0, .ref 8), (3, .long x3), (5, .int (x5 + 1))]) [1, 2, 0] rfl ?_
  exact hk83 x3 (x5 + 1) I L _ h
def f_X6_divide_83 : Nat → Int64 → Int32 → MI → ML → Option (MI × ML)
  | 0, _, _, _, _ => none
  | n + 1, x3, x5, I, L => if (I 8 0) ≤ x5 then (some (I, L)) else (Option.bind (ldI I 9 6 x5) fun v2 => if v2 ≤ 0 then (f_X6_divide_125 (f_X6_divide_83 n) x3 x5 I L) else (Option.bind (f_X6_placeOf x5 I L) fun v4 => if x3 ≤ v4.toInt64 then (f_X6_divide_125 (f_X6_divide_83 n) x3 x5 I L) else (Option.bind (ldL L 10 6 x5) fun v6 => Option.bind (stL L 10 6 x5 (v6 + 1)) fun L7 => f_X6_divide_125 (f_X6_divide_83 n) x3 x5 I L7)))
set_option maxRecDepth 100000 in
theorem S_X6_divide_83 {g : Gx} : ∀ (n : Nat) (x3 : Int64) (x5 : Int32) (I : MI) (L : ML) (res : MI × ML), f_X6_divide_83 n x3 x5 I L = some res → E g 2 0 mX6_divide 83 [(0, .ref 8), (3, .long x3), (5, .int x5)] [] (I, L) (.inl none) (res.1, res.2) := by
  intro n
  induction n with
  | zero =>
    intros
    rename_i h
    cases h
  | succ n ih =>
    intro x3 x5 I L res h
    rw [f_X6_divide_83] at h
    refine E_iload (M := mX6_divide) 85 rfl dX6_divide_83 2 rfl ?_
    refine E_aload_n (M := mX6_divide) 86 rfl dX6_divide_85 rfl 0 rfl ?_
    refine E_gI (M := mX6_divide) 89 rfl dX6_divide_86 shc_8 fl_X6_9 rfl ?_
    refine E_icmp_ge (M := mX6_divide) 131 92 (by decide) rfl dX6_divide_89 (fun c1 => ?_) (fun c1 => ?_)
    · rw [if_pos c1] at h
      cases h
      exact E_vret (M := mX6_divide) rfl dX6_divide_131
    · rw [if_neg c1] at h
      refine E_aload_n (M := mX6_divide) 93 rfl dX6_divide_92 rfl 0 rfl ?_
      refine E_gR (M := mX6_divide) 9 96 rfl dX6_divide_93 shc_8 fl_X6_15 rfl (by decide) (by decide) ?_
      refine E_iload (M := mX6_divide) 98 rfl dX6_divide_96 2 rfl ?_
      replace h := Option.bind_eq_some_iff.mp h
      obtain ⟨v2, hv2, h⟩ := h
      refine E_ldI (M := mX6_divide) 99 rfl dX6_divide_98 shc_9 hv2 ?_
      refine E_if_le (M := mX6_divide) 125 102 (by decide) rfl dX6_divide_99 (fun c3 => ?_) (fun c3 => ?_)
      · rw [if_pos c3] at h
        refine E_sub (M := mX6_divide) (lv' := [(0, .ref 8), (3, .long x3), (5, .int x5)]) [0, 1, 2] rfl ?_
        exact S_X6_divide_125 ih x3 x5 I L _ h
      · rw [if_neg c3] at h
        refine E_aload_n (M := mX6_divide) 103 rfl dX6_divide_102 rfl 0 rfl ?_
        refine E_iload (M := mX6_divide) 105 rfl dX6_divide_103 2 rfl ?_
        replace h := Option.bind_eq_some_iff.mp h
        obtain ⟨v4, hv4, h⟩ := h
        refine E_cV1 (M := mX6_divide) (As := [.int x5]) 108 rfl dX6_divide_105 shc_8 ck_X6_55 cv_X6_placeOf rfl (by decide) (Nat.le_of_ble_eq_true rfl) (C_X6_placeOf (g := g) hv4) rfl ?_
        refine E_i2l (M := mX6_divide) 109 rfl dX6_divide_108 ?_
        refine E_lload_n (M := mX6_divide) 110 rfl dX6_divide_109 rfl 1 rfl ?_
        refine E_lc_ge (M := mX6_divide) 125 111 114 (by decide) rfl rfl dX6_divide_110 dX6_divide_111 (fun c5 => ?_) (fun c5 => ?_)
        · rw [if_pos c5] at h
          refine E_sub (M := mX6_divide) (lv' := [(0, .ref 8), (3, .long x3), (5, .int x5)]) [0, 1, 2] rfl ?_
          exact S_X6_divide_125 ih x3 x5 I L _ h
        · rw [if_neg c5] at h
          refine E_aload_n (M := mX6_divide) 115 rfl dX6_divide_114 rfl 0 rfl ?_
          refine E_gR (M := mX6_divide) 10 118 rfl dX6_divide_115 shc_8 fl_X6_22 rfl (by decide) (by decide) ?_
          refine E_iload (M := mX6_divide) 120 rfl dX6_divide_118 2 rfl ?_
          refine E_dup2 (M := mX6_divide) 121 rfl dX6_divide_120 rfl rfl ?_
          replace h := Option.bind_eq_some_iff.mp h
          obtain ⟨v6, hv6, h⟩ := h
          refine E_ldL (M := mX6_divide) 122 rfl dX6_divide_121 shc_10 hv6 ?_
          refine E_lconst (M := mX6_divide) (v := 1) 123 rfl dX6_divide_122 (by decide) ?_
          refine E_ladd (M := mX6_divide) 124 rfl dX6_divide_123 ?_
          replace h := Option.bind_eq_some_iff.mp h
          obtain ⟨L7, hL7, h⟩ := h
          refine E_stL (M := mX6_divide) 125 rfl dX6_divide_124 shc_10 hL7 ?_
          refine E_sub (M := mX6_divide) (lv' := [(0, .ref 8), (3, .long x3), (5, .int x5)]) [0, 1, 2] rfl ?_
          exact S_X6_divide_125 ih x3 x5 I L7 _ h
def f_X6_divide_77 (x3 : Int64) (y1 : Int64) (I : MI) (L : ML) : Option (MI × ML) := Option.bind (pfL L 8 4 y1) fun L1 => f_X6_divide_83 FU x3 0 I L1
set_option maxRecDepth 100000 in
theorem S_X6_divide_77 {g : Gx} (x3 : Int64) (y1 : Int64) (I : MI) (L : ML) (res : MI × ML) (h : f_X6_divide_77 x3 y1 I L = some res) : E g 2 0 mX6_divide 77 [(0, .ref 8), (3, .long x3)] [.long y1, .ref 8] (I, L) (.inl none) (res.1, res.2) := by
  unfold f_X6_divide_77 at h
  replace h := Option.bind_eq_some_iff.mp h
  obtain ⟨L1, hL1, h⟩ := h
  refine E_pfL (M := mX6_divide) 80 rfl dX6_divide_77 shc_8 fl_X6_26 rfl hL1 ?_
  refine E_iconst (M := mX6_divide) (v := 0) 81 rfl dX6_divide_80 (by decide) ?_
  refine E_istore (M := mX6_divide) (lv' := [(5, .int 0), (0, .ref 8), (3, .long x3)]) 83 rfl dX6_divide_81 (Nat.le_of_ble_eq_true rfl) rfl ?_
  refine E_sub (M := mX6_divide) (lv' := [(0, .ref 8), (3, .long x3), (5, .int 0)]) [1, 2, 0] rfl ?_
  exact S_X6_divide_83 FU x3 0 I L1 _ h
def f_X6_divide_47 (k5 : Int64 → Int64 → Int32 → MI → ML → Option (MI × ML)) (x1 : Int64) (x3 : Int64) (x5 : Int32) (y1 : Int32) (y2 : Int64) (I : MI) (L : ML) : Option (MI × ML) := Option.bind (stL L 10 6 y1 y2) fun L1 => Option.bind (ldL L1 10 6 x5) fun v2 => k5 x1 (x3 - v2) (x5 + 1) I L1
set_option maxRecDepth 100000 in
theorem S_X6_divide_47 {g : Gx} {k5 : Int64 → Int64 → Int32 → MI → ML → Option (MI × ML)} (hk5 : ∀ (x1z : Int64) (x3z : Int64) (x5z : Int32) (I : MI) (L : ML) (res : MI × ML), k5 x1z x3z x5z I L = some res → E g 2 0 mX6_divide 5 [(0, .ref 8), (1, .long x1z), (3, .long x3z), (5, .int x5z)] [] (I, L) (.inl none) (res.1, res.2)) (x1 : Int64) (x3 : Int64) (x5 : Int32) (y1 : Int32) (y2 : Int64) (I : MI) (L : ML) (res : MI × ML) (h : f_X6_divide_47 k5 x1 x3 x5 y1 y2 I L = some res) : E g 2 0 mX6_divide 47 [(0, .ref 8), (1, .long x1), (3, .long x3), (5, .int x5)] [.long y2, .int y1, .ref 10] (I, L) (.inl none) (res.1, res.2) := by
  unfold f_X6_divide_47 at h
  replace h := Option.bind_eq_some_iff.mp h
  obtain ⟨L1, hL1, h⟩ := h
  refine E_stL (M := mX6_divide) 48 rfl dX6_divide_47 shc_10 hL1 ?_
  refine E_lload_n (M := mX6_divide) 49 rfl dX6_divide_48 rfl 2 rfl ?_
  refine E_aload_n (M := mX6_divide) 50 rfl dX6_divide_49 rfl 0 rfl ?_
  refine E_gR (M := mX6_divide) 10 53 rfl dX6_divide_50 shc_8 fl_X6_22 rfl (by decide) (by decide) ?_
  refine E_iload (M := mX6_divide) 55 rfl dX6_divide_53 3 rfl ?_
  replace h := Option.bind_eq_some_iff.mp h
  obtain ⟨v2, hv2, h⟩ := h
  refine E_ldL (M := mX6_divide) 56 rfl dX6_divide_55 shc_10 hv2 ?_
  refine E_lsub (M := mX6_divide) 57 rfl dX6_divide_56 ?_
  refine E_lstore_n (M := mX6_divide) (lv' := [(3, .long (x3 - v2)), (0, .ref 8), (1, .long x1), (5, .int x5)]) 58 rfl dX6_divide_57 rfl (Nat.le_of_ble_eq_true rfl) rfl ?_
  refine E_iinc (M := mX6_divide) (j := 3) (v := x5 + 1) (lv' := [(5, .int (x5 + 1)), (3, .long (x3 - v2)), (0, .ref 8), (1, .long x1)]) 61 rfl dX6_divide_58 rfl rfl (Nat.le_of_ble_eq_true rfl) rfl ?_
  refine E_goto (M := mX6_divide) 5 (by decide) dX6_divide_61 ?_
  refine E_sub (M := mX6_divide) (lv' := [(0, .ref 8), (1, .long x1), (3, .long (x3 - v2)), (5, .int (x5 + 1))]) [2, 3, 1, 0] rfl ?_
  exact hk5 x1 (x3 - v2) (x5 + 1) I L1 _ h
def f_X6_divide_5 : Nat → Int64 → Int64 → Int32 → MI → ML → Option (MI × ML)
  | 0, _, _, _, _, _ => none
  | n + 1, x1, x3, x5, I, L => if (I 8 0) ≤ x5 then (if 0 < (I 8 2) then (f_X6_divide_77 x3 0 I L) else (f_X6_divide_77 x3 x1 I L)) else (if 0 < (I 8 2) then (Option.bind (ldI I 9 6 x5) fun v4 => Option.bind (dvL (x1 * v4.toInt64) ((I 8 2).toInt64)) fun v5 => f_X6_divide_47 (f_X6_divide_5 n) x1 x3 x5 x5 v5 I L) else (f_X6_divide_47 (f_X6_divide_5 n) x1 x3 x5 x5 0 I L))
set_option maxRecDepth 100000 in
theorem S_X6_divide_5 {g : Gx} : ∀ (n : Nat) (x1 : Int64) (x3 : Int64) (x5 : Int32) (I : MI) (L : ML) (res : MI × ML), f_X6_divide_5 n x1 x3 x5 I L = some res → E g 2 0 mX6_divide 5 [(0, .ref 8), (1, .long x1), (3, .long x3), (5, .int x5)] [] (I, L) (.inl none) (res.1, res.2) := by
  intro n
  induction n with
  | zero =>
    intros
    rename_i h
    cases h
  | succ n ih =>
    intro x1 x3 x5 I L res h
    rw [f_X6_divide_5] at h
    refine E_iload (M := mX6_divide) 7 rfl dX6_divide_5 3 rfl ?_
    refine E_aload_n (M := mX6_divide) 8 rfl dX6_divide_7 rfl 0 rfl ?_
    refine E_gI (M := mX6_divide) 11 rfl dX6_divide_8 shc_8 fl_X6_9 rfl ?_
    refine E_icmp_ge (M := mX6_divide) 64 14 (by decide) rfl dX6_divide_11 (fun c1 => ?_) (fun c1 => ?_)
    · rw [if_pos c1] at h
      refine E_aload_n (M := mX6_divide) 65 rfl dX6_divide_64 rfl 0 rfl ?_
      refine E_aload_n (M := mX6_divide) 66 rfl dX6_divide_65 rfl 0 rfl ?_
      refine E_gI (M := mX6_divide) 69 rfl dX6_divide_66 shc_8 fl_X6_19 rfl ?_
      refine E_if_gt (M := mX6_divide) 76 72 (by decide) rfl dX6_divide_69 (fun c2 => ?_) (fun c2 => ?_)
      · rw [if_pos c2] at h
        refine E_lconst (M := mX6_divide) (v := 0) 77 rfl dX6_divide_76 (by decide) ?_
        refine E_sub (M := mX6_divide) (lv' := [(0, .ref 8), (3, .long x3)]) [0, 2] rfl ?_
        exact S_X6_divide_77 x3 0 I L _ h
      · rw [if_neg c2] at h
        refine E_lload_n (M := mX6_divide) 73 rfl dX6_divide_72 rfl 1 rfl ?_
        refine E_goto (M := mX6_divide) 77 (by decide) dX6_divide_73 ?_
        refine E_sub (M := mX6_divide) (lv' := [(0, .ref 8), (3, .long x3)]) [0, 2] rfl ?_
        exact S_X6_divide_77 x3 x1 I L _ h
    · rw [if_neg c1] at h
      refine E_aload_n (M := mX6_divide) 15 rfl dX6_divide_14 rfl 0 rfl ?_
      refine E_gR (M := mX6_divide) 10 18 rfl dX6_divide_15 shc_8 fl_X6_22 rfl (by decide) (by decide) ?_
      refine E_iload (M := mX6_divide) 20 rfl dX6_divide_18 3 rfl ?_
      refine E_aload_n (M := mX6_divide) 21 rfl dX6_divide_20 rfl 0 rfl ?_
      refine E_gI (M := mX6_divide) 24 rfl dX6_divide_21 shc_8 fl_X6_19 rfl ?_
      refine E_if_gt (M := mX6_divide) 31 27 (by decide) rfl dX6_divide_24 (fun c3 => ?_) (fun c3 => ?_)
      · rw [if_pos c3] at h
        refine E_lload_n (M := mX6_divide) 32 rfl dX6_divide_31 rfl 1 rfl ?_
        refine E_aload_n (M := mX6_divide) 33 rfl dX6_divide_32 rfl 0 rfl ?_
        refine E_gR (M := mX6_divide) 9 36 rfl dX6_divide_33 shc_8 fl_X6_15 rfl (by decide) (by decide) ?_
        refine E_iload (M := mX6_divide) 38 rfl dX6_divide_36 3 rfl ?_
        replace h := Option.bind_eq_some_iff.mp h
        obtain ⟨v4, hv4, h⟩ := h
        refine E_ldI (M := mX6_divide) 39 rfl dX6_divide_38 shc_9 hv4 ?_
        refine E_i2l (M := mX6_divide) 40 rfl dX6_divide_39 ?_
        refine E_lmul (M := mX6_divide) 41 rfl dX6_divide_40 ?_
        refine E_aload_n (M := mX6_divide) 42 rfl dX6_divide_41 rfl 0 rfl ?_
        refine E_gI (M := mX6_divide) 45 rfl dX6_divide_42 shc_8 fl_X6_19 rfl ?_
        refine E_i2l (M := mX6_divide) 46 rfl dX6_divide_45 ?_
        replace h := Option.bind_eq_some_iff.mp h
        obtain ⟨v5, hv5, h⟩ := h
        refine E_dvL (M := mX6_divide) 47 rfl dX6_divide_46 hv5 ?_
        refine E_sub (M := mX6_divide) (lv' := [(0, .ref 8), (1, .long x1), (3, .long x3), (5, .int x5)]) [0, 1, 2, 3] rfl ?_
        exact S_X6_divide_47 ih x1 x3 x5 x5 v5 I L _ h
      · rw [if_neg c3] at h
        refine E_lconst (M := mX6_divide) (v := 0) 28 rfl dX6_divide_27 (by decide) ?_
        refine E_goto (M := mX6_divide) 47 (by decide) dX6_divide_28 ?_
        refine E_sub (M := mX6_divide) (lv' := [(0, .ref 8), (1, .long x1), (3, .long x3), (5, .int x5)]) [0, 1, 2, 3] rfl ?_
        exact S_X6_divide_47 ih x1 x3 x5 x5 0 I L _ h
def f_X6_divide (x1 : Int64) (I : MI) (L : ML) : Option (MI × ML) := f_X6_divide_5 FU x1 x1 0 I L
set_option maxRecDepth 100000 in
theorem S_X6_divide {g : Gx} (x1 : Int64) (I : MI) (L : ML) (res : MI × ML) (h : f_X6_divide x1 I L = some res) : E g 2 0 mX6_divide 0 [(0, .ref 8), (1, .long x1)] [] (I, L) (.inl none) (res.1, res.2) := by
  unfold f_X6_divide at h
  refine E_lload_n (M := mX6_divide) 1 rfl dX6_divide_0 rfl 1 rfl ?_
  refine E_lstore_n (M := mX6_divide) (lv' := [(3, .long x1), (0, .ref 8), (1, .long x1)]) 2 rfl dX6_divide_1 rfl (Nat.le_of_ble_eq_true rfl) rfl ?_
  refine E_iconst (M := mX6_divide) (v := 0) 3 rfl dX6_divide_2 (by decide) ?_
  refine E_istore (M := mX6_divide) (lv' := [(5, .int 0), (3, .long x1), (0, .ref 8), (1, .long x1)]) 5 rfl dX6_divide_3 (Nat.le_of_ble_eq_true rfl) rfl ?_
  refine E_sub (M := mX6_divide) (lv' := [(0, .ref 8), (1, .long x1), (3, .long x1), (5, .int 0)]) [2, 3, 1, 0] rfl ?_
  exact S_X6_divide_5 FU x1 x1 0 I L _ h
theorem C_X6_divide {g : Gx} {x1 : Int64} {I : MI} {L : ML} {res : MI × ML} (h : f_X6_divide x1 I L = some res) : Ent g 2 0 mX6_divide [.ref 8, .long x1] (I, L) (.inl none) (res.1, res.2) := Ent_of (by decide +kernel) (Nat.le_of_ble_eq_true rfl) (S_X6_divide x1 I L _ h)
def f_X7_isBetter_63 (y0 : Bool) (I : MI) (L : ML) : Option (Bool) := some y0
set_option maxRecDepth 100000 in
theorem S_X7_isBetter_63 {g : Gx} (y0 : Bool) (I : MI) (L : ML) (res : Bool) (h : f_X7_isBetter_63 y0 I L = some res) : E g 5 0 mX7_isBetter 63 [] [.int (bI y0)] (I, L) (.inl (some (.int (bI res)))) (I, L) := by
  unfold f_X7_isBetter_63 at h
  cases h
  exact E_zret (M := mX7_isBetter) (x := y0) rfl dX7_isBetter_63
def f_X7_isBetter_62 (I : MI) (L : ML) : Option (Bool) := f_X7_isBetter_63 false I L
set_option maxRecDepth 100000 in
theorem S_X7_isBetter_62 {g : Gx} (I : MI) (L : ML) (res : Bool) (h : f_X7_isBetter_62 I L = some res) : E g 5 0 mX7_isBetter 62 [] [] (I, L) (.inl (some (.int (bI res)))) (I, L) := by
  unfold f_X7_isBetter_62 at h
  refine E_iconst (M := mX7_isBetter) (v := 0) 63 rfl dX7_isBetter_62 (by decide) ?_
  refine E_sub (M := mX7_isBetter) (lv' := []) [] rfl ?_
  exact S_X7_isBetter_63 false I L _ h
def f_X7_isBetter_58 (I : MI) (L : ML) : Option (Bool) := f_X7_isBetter_63 true I L
set_option maxRecDepth 100000 in
theorem S_X7_isBetter_58 {g : Gx} (I : MI) (L : ML) (res : Bool) (h : f_X7_isBetter_58 I L = some res) : E g 5 0 mX7_isBetter 58 [] [] (I, L) (.inl (some (.int (bI res)))) (I, L) := by
  unfold f_X7_isBetter_58 at h
  refine E_iconst (M := mX7_isBetter) (v := 1) 59 rfl dX7_isBetter_58 (by decide) ?_
  refine E_goto (M := mX7_isBetter) 63 (by decide) dX7_isBetter_59 ?_
  refine E_sub (M := mX7_isBetter) (lv' := []) [] rfl ?_
  exact S_X7_isBetter_63 true I L _ h
def f_X7_isBetter_23 (y0 : Bool) (I : MI) (L : ML) : Option (Bool) := some y0
set_option maxRecDepth 100000 in
theorem S_X7_isBetter_23 {g : Gx} (y0 : Bool) (I : MI) (L : ML) (res : Bool) (h : f_X7_isBetter_23 y0 I L = some res) : E g 5 0 mX7_isBetter 23 [] [.int (bI y0)] (I, L) (.inl (some (.int (bI res)))) (I, L) := by
  unfold f_X7_isBetter_23 at h
  cases h
  exact E_zret (M := mX7_isBetter) (x := y0) rfl dX7_isBetter_23
def f_X7_isBetter (x1 : Int32) (x2 : Int64) (I : MI) (L : ML) : Option (Bool) := if x2 = (L 11 5) then (Option.bind (f_J6_bitCount_0f7a4 x1 I L) fun v2 => Option.bind (f_J6_bitCount_0f7a4 (I 11 4) I L) fun v3 => Option.bind (f_J6_compare_7cf53 v2 v3 I L) fun v4 => if v4 < 0 then (f_X7_isBetter_58 I L) else (if v4 = 0 then (if (I 11 4) ≤ x1 then (f_X7_isBetter_62 I L) else (f_X7_isBetter_58 I L)) else (f_X7_isBetter_62 I L))) else (if (L 11 5) ≤ x2 then (f_X7_isBetter_23 false I L) else (f_X7_isBetter_23 true I L))
set_option maxRecDepth 100000 in
theorem S_X7_isBetter {g : Gx} (x1 : Int32) (x2 : Int64) (I : MI) (L : ML) (res : Bool) (h : f_X7_isBetter x1 x2 I L = some res) : E g 5 0 mX7_isBetter 0 [(0, .ref 11), (1, .int x1), (2, .long x2)] [] (I, L) (.inl (some (.int (bI res)))) (I, L) := by
  unfold f_X7_isBetter at h
  refine E_lload_n (M := mX7_isBetter) 1 rfl dX7_isBetter_0 rfl 2 rfl ?_
  refine E_aload_n (M := mX7_isBetter) 2 rfl dX7_isBetter_1 rfl 0 rfl ?_
  refine E_gL (M := mX7_isBetter) 5 rfl dX7_isBetter_2 shc_11 fl_X7_29 rfl ?_
  refine E_lc_eq (M := mX7_isBetter) 24 6 9 (by decide) rfl rfl dX7_isBetter_5 dX7_isBetter_6 (fun c1 => ?_) (fun c1 => ?_)
  · rw [if_pos c1] at h
    refine E_iload_n (M := mX7_isBetter) 25 rfl dX7_isBetter_24 rfl 1 rfl ?_
    replace h := Option.bind_eq_some_iff.mp h
    obtain ⟨v2, hv2, h⟩ := h
    refine E_cS1 (M := mX7_isBetter) (As := [.int x1]) 28 rfl dX7_isBetter_25 ck_X7_56 ss_J6_bitCount_0f7a4 rfl (by decide) (Nat.le_of_ble_eq_true rfl) (C_J6_bitCount_0f7a4 (g := g) hv2) rfl ?_
    refine E_aload_n (M := mX7_isBetter) 29 rfl dX7_isBetter_28 rfl 0 rfl ?_
    refine E_gI (M := mX7_isBetter) 32 rfl dX7_isBetter_29 shc_11 fl_X7_26 rfl ?_
    replace h := Option.bind_eq_some_iff.mp h
    obtain ⟨v3, hv3, h⟩ := h
    refine E_cS1 (M := mX7_isBetter) (As := [.int (I 11 4)]) 35 rfl dX7_isBetter_32 ck_X7_56 ss_J6_bitCount_0f7a4 rfl (by decide) (Nat.le_of_ble_eq_true rfl) (C_J6_bitCount_0f7a4 (g := g) hv3) rfl ?_
    replace h := Option.bind_eq_some_iff.mp h
    obtain ⟨v4, hv4, h⟩ := h
    refine E_cS1 (M := mX7_isBetter) (As := [.int v2, .int v3]) 38 rfl dX7_isBetter_35 ck_X7_62 ss_J6_compare_7cf53 rfl (by decide) (Nat.le_of_ble_eq_true rfl) (C_J6_compare_7cf53 (g := g) hv4) rfl ?_
    refine E_istore (M := mX7_isBetter) (lv' := [(4, .int v4), (0, .ref 11), (1, .int x1), (2, .long x2)]) 40 rfl dX7_isBetter_38 (Nat.le_of_ble_eq_true rfl) rfl ?_
    refine E_iload (M := mX7_isBetter) 42 rfl dX7_isBetter_40 0 rfl ?_
    refine E_if_lt (M := mX7_isBetter) 58 45 (by decide) rfl dX7_isBetter_42 (fun c5 => ?_) (fun c5 => ?_)
    · rw [if_pos c5] at h
      refine E_sub (M := mX7_isBetter) (lv' := []) [] rfl ?_
      exact S_X7_isBetter_58 I L _ h
    · rw [if_neg c5] at h
      refine E_iload (M := mX7_isBetter) 47 rfl dX7_isBetter_45 0 rfl ?_
      refine E_if_ne (M := mX7_isBetter) 62 50 (by decide) rfl dX7_isBetter_47 (fun c6 => ?_) (fun c6 => ?_)
      · rw [if_neg c6] at h
        refine E_sub (M := mX7_isBetter) (lv' := []) [] rfl ?_
        exact S_X7_isBetter_62 I L _ h
      · rw [if_pos c6] at h
        refine E_iload_n (M := mX7_isBetter) 51 rfl dX7_isBetter_50 rfl 2 rfl ?_
        refine E_aload_n (M := mX7_isBetter) 52 rfl dX7_isBetter_51 rfl 1 rfl ?_
        refine E_gI (M := mX7_isBetter) 55 rfl dX7_isBetter_52 shc_11 fl_X7_26 rfl ?_
        refine E_icmp_ge (M := mX7_isBetter) 62 58 (by decide) rfl dX7_isBetter_55 (fun c7 => ?_) (fun c7 => ?_)
        · rw [if_pos c7] at h
          refine E_sub (M := mX7_isBetter) (lv' := []) [] rfl ?_
          exact S_X7_isBetter_62 I L _ h
        · rw [if_neg c7] at h
          refine E_sub (M := mX7_isBetter) (lv' := []) [] rfl ?_
          exact S_X7_isBetter_58 I L _ h
  · rw [if_neg c1] at h
    refine E_lload_n (M := mX7_isBetter) 10 rfl dX7_isBetter_9 rfl 2 rfl ?_
    refine E_aload_n (M := mX7_isBetter) 11 rfl dX7_isBetter_10 rfl 0 rfl ?_
    refine E_gL (M := mX7_isBetter) 14 rfl dX7_isBetter_11 shc_11 fl_X7_29 rfl ?_
    refine E_lc_ge (M := mX7_isBetter) 22 15 18 (by decide) rfl rfl dX7_isBetter_14 dX7_isBetter_15 (fun c8 => ?_) (fun c8 => ?_)
    · rw [if_pos c8] at h
      refine E_iconst (M := mX7_isBetter) (v := 0) 23 rfl dX7_isBetter_22 (by decide) ?_
      refine E_sub (M := mX7_isBetter) (lv' := []) [] rfl ?_
      exact S_X7_isBetter_23 false I L _ h
    · rw [if_neg c8] at h
      refine E_iconst (M := mX7_isBetter) (v := 1) 19 rfl dX7_isBetter_18 (by decide) ?_
      refine E_goto (M := mX7_isBetter) 23 (by decide) dX7_isBetter_19 ?_
      refine E_sub (M := mX7_isBetter) (lv' := []) [] rfl ?_
      exact S_X7_isBetter_23 true I L _ h
theorem C_X7_isBetter {g : Gx} {x1 : Int32} {x2 : Int64} {I : MI} {L : ML} {res : Bool} (h : f_X7_isBetter x1 x2 I L = some res) : Ent g 5 0 mX7_isBetter [.ref 11, .int x1, .long x2] (I, L) (.inl (some (.int (bI res)))) (I, L) := Ent_of (by decide +kernel) (Nat.le_of_ble_eq_true rfl) (S_X7_isBetter x1 x2 I L _ h)
def f_X7_choose_46 (r_X7_choose : Int32 → Int32 → Int64 → Int32 → MI → ML → Option (MI × ML)) (I : MI) (L : ML) : Option (MI × ML) := some (I, L)
set_option maxRecDepth 100000 in
theorem S_X7_choose_46 {g : Gx} {D : Nat} {r_X7_choose : Int32 → Int32 → Int64 → Int32 → MI → ML → Option (MI × ML)} (hD : 5 ≤ D) (hr_X7_choose : ∀ {x1 : Int32} {x2 : Int32} {x3 : Int64} {x5 : Int32} {I : MI} {L : ML} {res : MI × ML}, r_X7_choose x1 x2 x3 x5 I L = some res → Ent g D 0 mX7_choose [.ref 11, .int x1, .int x2, .long x3, .int x5] (I, L) (.inl none) (res.1, res.2)) (I : MI) (L : ML) (res : MI × ML) (h : f_X7_choose_46 r_X7_choose I L = some res) : E g (D + 1) 0 mX7_choose 46 [] [] (I, L) (.inl none) (res.1, res.2) := by
  unfold f_X7_choose_46 at h
  cases h
  exact E_vret (M := mX7_choose) rfl dX7_choose_46
def f_X7_choose_18 (r_X7_choose : Int32 → Int32 → Int64 → Int32 → MI → ML → Option (MI × ML)) (I : MI) (L : ML) : Option (MI × ML) := some (I, L)
set_option maxRecDepth 100000 in
theorem S_X7_choose_18 {g : Gx} {D : Nat} {r_X7_choose : Int32 → Int32 → Int64 → Int32 → MI → ML → Option (MI × ML)} (hD : 5 ≤ D) (hr_X7_choose : ∀ {x1 : Int32} {x2 : Int32} {x3 : Int64} {x5 : Int32} {I : MI} {L : ML} {res : MI × ML}, r_X7_choose x1 x2 x3 x5 I L = some res → Ent g D 0 mX7_choose [.ref 11, .int x1, .int x2, .long x3, .int x5] (I, L) (.inl none) (res.1, res.2)) (I : MI) (L : ML) (res : MI × ML) (h : f_X7_choose_18 r_X7_choose I L = some res) : E g (D + 1) 0 mX7_choose 18 [] [] (I, L) (.inl none) (res.1, res.2) := by
  unfold f_X7_choose_18 at h
  cases h
  exact E_vret (M := mX7_choose) rfl dX7_choose_18
def F_X7_choose (r_X7_choose : Int32 → Int32 → Int64 → Int32 → MI → ML → Option (MI × ML)) (x1 : Int32) (x2 : Int32) (x3 : Int64) (x5 : Int32) (I : MI) (L : ML) : Option (MI × ML) := if (I 11 3) < x5 then (f_X7_choose_18 r_X7_choose I L) else (if x3 ≤ (L 11 5) then (if x1 < (I 11 2) then (Option.bind (ldI I 12 12 x1) fun v4 => Option.bind (r_X7_choose (x1 + 1) x2 x3 (x5 + v4) I L) fun w5 => Option.bind (ldL w5.2 13 12 x1) fun v6 => Option.bind (r_X7_choose (x1 + 1) (x2 ||| (1 <<< (x1 &&& 31))) (x3 + v6) x5 w5.1 w5.2) fun w7 => some (w7.1, w7.2)) else (Option.bind (f_X7_isBetter x2 x3 I L) fun v8 => if v8 = true then (Option.bind (pfI I 11 4 x2) fun I10 => Option.bind (pfL L 11 5 x3) fun L11 => f_X7_choose_46 r_X7_choose I10 L11) else (f_X7_choose_46 r_X7_choose I L))) else (f_X7_choose_18 r_X7_choose I L))
set_option maxRecDepth 100000 in
theorem S_X7_choose {g : Gx} {D : Nat} {r_X7_choose : Int32 → Int32 → Int64 → Int32 → MI → ML → Option (MI × ML)} (hD : 5 ≤ D) (hr_X7_choose : ∀ {x1 : Int32} {x2 : Int32} {x3 : Int64} {x5 : Int32} {I : MI} {L : ML} {res : MI × ML}, r_X7_choose x1 x2 x3 x5 I L = some res → Ent g D 0 mX7_choose [.ref 11, .int x1, .int x2, .long x3, .int x5] (I, L) (.inl none) (res.1, res.2)) (x1 : Int32) (x2 : Int32) (x3 : Int64) (x5 : Int32) (I : MI) (L : ML) (res : MI × ML) (h : F_X7_choose r_X7_choose x1 x2 x3 x5 I L = some res) : E g (D + 1) 0 mX7_choose 0 [(0, .ref 11), (1, .int x1), (2, .int x2), (3, .long x3), (5, .int x5)] [] (I, L) (.inl none) (res.1, res.2) := by
  unfold F_X7_choose at h
  refine E_iload (M := mX7_choose) 2 rfl dX7_choose_0 4 rfl ?_
  refine E_aload_n (M := mX7_choose) 3 rfl dX7_choose_2 rfl 0 rfl ?_
  refine E_gI (M := mX7_choose) 6 rfl dX7_choose_3 shc_11 fl_X7_23 rfl ?_
  refine E_icmp_gt (M := mX7_choose) 18 9 (by decide) rfl dX7_choose_6 (fun c1 => ?_) (fun c1 => ?_)
  · rw [if_pos c1] at h
    refine E_sub (M := mX7_choose) (lv' := []) [] rfl ?_
    exact S_X7_choose_18 hD hr_X7_choose I L _ h
  · rw [if_neg c1] at h
    refine E_lload_n (M := mX7_choose) 10 rfl dX7_choose_9 rfl 3 rfl ?_
    refine E_aload_n (M := mX7_choose) 11 rfl dX7_choose_10 rfl 0 rfl ?_
    refine E_gL (M := mX7_choose) 14 rfl dX7_choose_11 shc_11 fl_X7_29 rfl ?_
    refine E_lc_le (M := mX7_choose) 19 15 18 (by decide) rfl rfl dX7_choose_14 dX7_choose_15 (fun c2 => ?_) (fun c2 => ?_)
    · rw [if_pos c2] at h
      refine E_iload_n (M := mX7_choose) 20 rfl dX7_choose_19 rfl 1 rfl ?_
      refine E_aload_n (M := mX7_choose) 21 rfl dX7_choose_20 rfl 0 rfl ?_
      refine E_gI (M := mX7_choose) 24 rfl dX7_choose_21 shc_11 fl_X7_19 rfl ?_
      refine E_icmp_lt (M := mX7_choose) 47 27 (by decide) rfl dX7_choose_24 (fun c3 => ?_) (fun c3 => ?_)
      · rw [if_pos c3] at h
        refine E_aload_n (M := mX7_choose) 48 rfl dX7_choose_47 rfl 0 rfl ?_
        refine E_iload_n (M := mX7_choose) 49 rfl dX7_choose_48 rfl 1 rfl ?_
        refine E_iconst (M := mX7_choose) (v := 1) 50 rfl dX7_choose_49 (by decide) ?_
        refine E_iadd (M := mX7_choose) 51 rfl dX7_choose_50 ?_
        refine E_iload_n (M := mX7_choose) 52 rfl dX7_choose_51 rfl 2 rfl ?_
        refine E_lload_n (M := mX7_choose) 53 rfl dX7_choose_52 rfl 3 rfl ?_
        refine E_iload (M := mX7_choose) 55 rfl dX7_choose_53 4 rfl ?_
        refine E_aload_n (M := mX7_choose) 56 rfl dX7_choose_55 rfl 0 rfl ?_
        refine E_gR (M := mX7_choose) 12 59 rfl dX7_choose_56 shc_11 fl_X7_9 rfl (by decide) (by decide) ?_
        refine E_iload_n (M := mX7_choose) 60 rfl dX7_choose_59 rfl 1 rfl ?_
        replace h := Option.bind_eq_some_iff.mp h
        obtain ⟨v4, hv4, h⟩ := h
        refine E_ldI (M := mX7_choose) 61 rfl dX7_choose_60 shc_12 hv4 ?_
        refine E_iadd (M := mX7_choose) 62 rfl dX7_choose_61 ?_
        replace h := Option.bind_eq_some_iff.mp h
        obtain ⟨w5, hw5, h⟩ := h
        refine E_cV0 (M := mX7_choose) (As := [.int (x1 + 1), .int x2, .long x3, .int (x5 + v4)]) 65 rfl dX7_choose_62 shc_11 ck_X7_48 cv_X7_choose rfl (by omega) (Nat.le_of_ble_eq_true rfl) (hr_X7_choose hw5) rfl ?_
        refine E_aload_n (M := mX7_choose) 66 rfl dX7_choose_65 rfl 0 rfl ?_
        refine E_iload_n (M := mX7_choose) 67 rfl dX7_choose_66 rfl 1 rfl ?_
        refine E_iconst (M := mX7_choose) (v := 1) 68 rfl dX7_choose_67 (by decide) ?_
        refine E_iadd (M := mX7_choose) 69 rfl dX7_choose_68 ?_
        refine E_iload_n (M := mX7_choose) 70 rfl dX7_choose_69 rfl 2 rfl ?_
        refine E_iconst (M := mX7_choose) (v := 1) 71 rfl dX7_choose_70 (by decide) ?_
        refine E_iload_n (M := mX7_choose) 72 rfl dX7_choose_71 rfl 1 rfl ?_
        refine E_ishl (M := mX7_choose) 73 rfl dX7_choose_72 ?_
        refine E_ior (M := mX7_choose) 74 rfl dX7_choose_73 ?_
        refine E_lload_n (M := mX7_choose) 75 rfl dX7_choose_74 rfl 3 rfl ?_
        refine E_aload_n (M := mX7_choose) 76 rfl dX7_choose_75 rfl 0 rfl ?_
        refine E_gR (M := mX7_choose) 13 79 rfl dX7_choose_76 shc_11 fl_X7_15 rfl (by decide) (by decide) ?_
        refine E_iload_n (M := mX7_choose) 80 rfl dX7_choose_79 rfl 1 rfl ?_
        replace h := Option.bind_eq_some_iff.mp h
        obtain ⟨v6, hv6, h⟩ := h
        refine E_ldL (M := mX7_choose) 81 rfl dX7_choose_80 shc_13 hv6 ?_
        refine E_ladd (M := mX7_choose) 82 rfl dX7_choose_81 ?_
        refine E_iload (M := mX7_choose) 84 rfl dX7_choose_82 4 rfl ?_
        replace h := Option.bind_eq_some_iff.mp h
        obtain ⟨w7, hw7, h⟩ := h
        refine E_cV0 (M := mX7_choose) (As := [.int (x1 + 1), .int (x2 ||| (1 <<< (x1 &&& 31))), .long (x3 + v6), .int x5]) 87 rfl dX7_choose_84 shc_11 ck_X7_48 cv_X7_choose rfl (by omega) (Nat.le_of_ble_eq_true rfl) (hr_X7_choose hw7) rfl ?_
        cases h
        exact E_vret (M := mX7_choose) rfl dX7_choose_87
      · rw [if_neg c3] at h
        refine E_aload_n (M := mX7_choose) 28 rfl dX7_choose_27 rfl 0 rfl ?_
        refine E_iload_n (M := mX7_choose) 29 rfl dX7_choose_28 rfl 2 rfl ?_
        refine E_lload_n (M := mX7_choose) 30 rfl dX7_choose_29 rfl 3 rfl ?_
        replace h := Option.bind_eq_some_iff.mp h
        obtain ⟨v8, hv8, h⟩ := h
        refine E_cV1 (M := mX7_choose) (As := [.int x2, .long x3]) 33 rfl dX7_choose_30 shc_11 ck_X7_52 cv_X7_isBetter rfl (by omega) (Nat.le_of_ble_eq_true rfl) (C_X7_isBetter (g := g) hv8) rfl ?_
        refine E_if_eqB (M := mX7_choose) 46 36 (by decide) rfl dX7_choose_33 (fun c9 => ?_) (fun c9 => ?_)
        · rw [if_neg (by rw [c9]; decide)] at h
          refine E_sub (M := mX7_choose) (lv' := []) [] rfl ?_
          exact S_X7_choose_46 hD hr_X7_choose I L _ h
        · rw [if_pos c9] at h
          refine E_aload_n (M := mX7_choose) 37 rfl dX7_choose_36 rfl 0 rfl ?_
          refine E_iload_n (M := mX7_choose) 38 rfl dX7_choose_37 rfl 2 rfl ?_
          replace h := Option.bind_eq_some_iff.mp h
          obtain ⟨I10, hI10, h⟩ := h
          refine E_pfI (M := mX7_choose) 41 rfl dX7_choose_38 shc_11 fl_X7_26 rfl hI10 ?_
          refine E_aload_n (M := mX7_choose) 42 rfl dX7_choose_41 rfl 0 rfl ?_
          refine E_lload_n (M := mX7_choose) 43 rfl dX7_choose_42 rfl 3 rfl ?_
          replace h := Option.bind_eq_some_iff.mp h
          obtain ⟨L11, hL11, h⟩ := h
          refine E_pfL (M := mX7_choose) 46 rfl dX7_choose_43 shc_11 fl_X7_29 rfl hL11 ?_
          refine E_sub (M := mX7_choose) (lv' := []) [] rfl ?_
          exact S_X7_choose_46 hD hr_X7_choose I10 L11 _ h
    · rw [if_neg c2] at h
      refine E_sub (M := mX7_choose) (lv' := []) [] rfl ?_
      exact S_X7_choose_18 hD hr_X7_choose I L _ h
def f_X7_choose : Nat → Int32 → Int32 → Int64 → Int32 → MI → ML → Option (MI × ML)
  | 0, _, _, _, _, _, _ => none
  | n + 1, x1, x2, x3, x5, I, L => F_X7_choose (f_X7_choose n) x1 x2 x3 x5 I L
theorem C_X7_choose {g : Gx} : ∀ (n : Nat), ∀ {x1 : Int32} {x2 : Int32} {x3 : Int64} {x5 : Int32} {I : MI} {L : ML} {res : MI × ML}, f_X7_choose n x1 x2 x3 x5 I L = some res → Ent g (5 + n) 0 mX7_choose [.ref 11, .int x1, .int x2, .long x3, .int x5] (I, L) (.inl none) (res.1, res.2) := by
  intro n
  induction n with
  | zero =>
    intros
    rename_i h
    cases h
  | succ n ih =>
    intro x1 x2 x3 x5 I L res h
    exact Ent_of (by decide +kernel) (Nat.le_of_ble_eq_true rfl) (S_X7_choose (D := 5 + n) (by omega) ih x1 x2 x3 x5 I L _ h)
def f_X7_find_33 : Nat → Nat → Int32 → Int32 → Int32 → MI → ML → Option (Int32 × MI × ML)
  | 0, _, _, _, _, _, _ => none
  | n + 1, x1, x2, x4, x5, I, L => if (I 11 2) ≤ x5 then (Option.bind (f_X7_choose 40 0 0 0 0 I L) fun w2 => some (w2.1 11 4, w2.1, w2.2)) else (Option.bind (ldR (x1 + 33) 12 x5) fun v3 => Option.bind (f_X3_loudAt x1 v3 x2 I L) fun v4 => Option.bind (stI I 12 12 x5 v4) fun I5 => Option.bind (ldR (x1 + 33) 12 x5) fun v6 => Option.bind (f_X3_dueFor x1 v6 x4 I5 L) fun v7 => Option.bind (stL L 13 12 x5 v7) fun L8 => Option.bind (ldL L8 13 12 x5) fun v9 => Option.bind (pfL L8 11 5 ((L8 11 5) + v9)) fun L10 => f_X7_find_33 n x1 x2 x4 (x5 + 1) I5 L10)
set_option maxRecDepth 100000 in
theorem S_X7_find_33 {g : Gx} : ∀ (n : Nat) (x1 : Nat) (x2 : Int32) (x4 : Int32) (x5 : Int32) (hx1 : isH x1) (I : MI) (L : ML) (res : Int32 × MI × ML), f_X7_find_33 n x1 x2 x4 x5 I L = some res → E g 46 0 mX7_find 33 [(0, .ref 11), (1, .ref x1), (2, .int x2), (4, .int x4), (5, .int x5)] [] (I, L) (.inl (some (.int res.1))) (res.2.1, res.2.2) := by
  intro n
  induction n with
  | zero =>
    intros
    rename_i h
    cases h
  | succ n ih =>
    intro x1 x2 x4 x5 hx1 I L res h
    rw [f_X7_find_33] at h
    refine E_iload (M := mX7_find) 35 rfl dX7_find_33 4 rfl ?_
    refine E_aload_n (M := mX7_find) 36 rfl dX7_find_35 rfl 0 rfl ?_
    refine E_gI (M := mX7_find) 39 rfl dX7_find_36 shc_11 fl_X7_19 rfl ?_
    refine E_icmp_ge (M := mX7_find) 103 42 (by decide) rfl dX7_find_39 (fun c1 => ?_) (fun c1 => ?_)
    · rw [if_pos c1] at h
      refine E_aload_n (M := mX7_find) 104 rfl dX7_find_103 rfl 0 rfl ?_
      refine E_iconst (M := mX7_find) (v := 0) 105 rfl dX7_find_104 (by decide) ?_
      refine E_iconst (M := mX7_find) (v := 0) 106 rfl dX7_find_105 (by decide) ?_
      refine E_lconst (M := mX7_find) (v := 0) 107 rfl dX7_find_106 (by decide) ?_
      refine E_iconst (M := mX7_find) (v := 0) 108 rfl dX7_find_107 (by decide) ?_
      replace h := Option.bind_eq_some_iff.mp h
      obtain ⟨w2, hw2, h⟩ := h
      refine E_cV0 (M := mX7_find) (As := [.int 0, .int 0, .long 0, .int 0]) 111 rfl dX7_find_108 shc_11 ck_X7_48 cv_X7_choose rfl (by decide) (Nat.le_of_ble_eq_true rfl) (C_X7_choose (g := g) 40 hw2) rfl ?_
      refine E_aload_n (M := mX7_find) 112 rfl dX7_find_111 rfl 0 rfl ?_
      refine E_gI (M := mX7_find) 115 rfl dX7_find_112 shc_11 fl_X7_26 rfl ?_
      cases h
      exact E_iret (M := mX7_find) rfl dX7_find_115
    · rw [if_neg c1] at h
      refine E_aload_n (M := mX7_find) 43 rfl dX7_find_42 rfl 0 rfl ?_
      refine E_gR (M := mX7_find) 12 46 rfl dX7_find_43 shc_11 fl_X7_9 rfl (by decide) (by decide) ?_
      refine E_iload (M := mX7_find) 48 rfl dX7_find_46 4 rfl ?_
      refine E_aload_n (M := mX7_find) 49 rfl dX7_find_48 rfl 1 rfl ?_
      refine E_aload_n (M := mX7_find) 50 rfl dX7_find_49 rfl 1 rfl ?_
      refine E_gR (M := mX7_find) (x1 + 4) 53 rfl dX7_find_50 (sh_H hx1) fl_X7_36 rfl (rt_H7 hx1) (H_lt hx1 4 (by decide)) ?_
      refine E_iload (M := mX7_find) 55 rfl dX7_find_53 4 rfl ?_
      replace h := Option.bind_eq_some_iff.mp h
      obtain ⟨v3, hv3, h⟩ := h
      refine E_ldN (M := mX7_find) hx1 56 rfl dX7_find_55 hv3 ?_
      refine E_iload_n (M := mX7_find) 57 rfl dX7_find_56 rfl 2 rfl ?_
      replace h := Option.bind_eq_some_iff.mp h
      obtain ⟨v4, hv4, h⟩ := h
      refine E_cV1 (M := mX7_find) (As := [.ref v3, .int x2]) 60 rfl dX7_find_57 (sh_H hx1) ck_X7_40 cv_X3_loudAt rfl (by decide) (Nat.le_of_ble_eq_true rfl) (C_X3_loudAt (g := g) hx1 (isN_ld hx1 hv3) hv4) rfl ?_
      replace h := Option.bind_eq_some_iff.mp h
      obtain ⟨I5, hI5, h⟩ := h
      refine E_stI (M := mX7_find) 61 rfl dX7_find_60 shc_12 hI5 ?_
      refine E_aload_n (M := mX7_find) 62 rfl dX7_find_61 rfl 0 rfl ?_
      refine E_gR (M := mX7_find) 13 65 rfl dX7_find_62 shc_11 fl_X7_15 rfl (by decide) (by decide) ?_
      refine E_iload (M := mX7_find) 67 rfl dX7_find_65 4 rfl ?_
      refine E_aload_n (M := mX7_find) 68 rfl dX7_find_67 rfl 1 rfl ?_
      refine E_aload_n (M := mX7_find) 69 rfl dX7_find_68 rfl 1 rfl ?_
      refine E_gR (M := mX7_find) (x1 + 4) 72 rfl dX7_find_69 (sh_H hx1) fl_X7_36 rfl (rt_H7 hx1) (H_lt hx1 4 (by decide)) ?_
      refine E_iload (M := mX7_find) 74 rfl dX7_find_72 4 rfl ?_
      replace h := Option.bind_eq_some_iff.mp h
      obtain ⟨v6, hv6, h⟩ := h
      refine E_ldN (M := mX7_find) hx1 75 rfl dX7_find_74 hv6 ?_
      refine E_iload (M := mX7_find) 77 rfl dX7_find_75 3 rfl ?_
      replace h := Option.bind_eq_some_iff.mp h
      obtain ⟨v7, hv7, h⟩ := h
      refine E_cV1 (M := mX7_find) (As := [.ref v6, .int x4]) 80 rfl dX7_find_77 (sh_H hx1) ck_X7_44 cv_X3_dueFor rfl (by decide) (Nat.le_of_ble_eq_true rfl) (C_X3_dueFor (g := g) hx1 (isN_ld hx1 hv6) hv7) rfl ?_
      replace h := Option.bind_eq_some_iff.mp h
      obtain ⟨L8, hL8, h⟩ := h
      refine E_stL (M := mX7_find) 81 rfl dX7_find_80 shc_13 hL8 ?_
      refine E_aload_n (M := mX7_find) 82 rfl dX7_find_81 rfl 0 rfl ?_
      refine E_dup (M := mX7_find) 83 rfl dX7_find_82 rfl ?_
      refine E_gL (M := mX7_find) 86 rfl dX7_find_83 shc_11 fl_X7_29 rfl ?_
      refine E_aload_n (M := mX7_find) 87 rfl dX7_find_86 rfl 0 rfl ?_
      refine E_gR (M := mX7_find) 13 90 rfl dX7_find_87 shc_11 fl_X7_15 rfl (by decide) (by decide) ?_
      refine E_iload (M := mX7_find) 92 rfl dX7_find_90 4 rfl ?_
      replace h := Option.bind_eq_some_iff.mp h
      obtain ⟨v9, hv9, h⟩ := h
      refine E_ldL (M := mX7_find) 93 rfl dX7_find_92 shc_13 hv9 ?_
      refine E_ladd (M := mX7_find) 94 rfl dX7_find_93 ?_
      replace h := Option.bind_eq_some_iff.mp h
      obtain ⟨L10, hL10, h⟩ := h
      refine E_pfL (M := mX7_find) 97 rfl dX7_find_94 shc_11 fl_X7_29 rfl hL10 ?_
      refine E_iinc (M := mX7_find) (j := 4) (v := x5 + 1) (lv' := [(5, .int (x5 + 1)), (0, .ref 11), (1, .ref x1), (2, .int x2), (4, .int x4)]) 100 rfl dX7_find_97 rfl rfl (Nat.le_of_ble_eq_true rfl) rfl ?_
      refine E_goto (M := mX7_find) 33 (by decide) dX7_find_100 ?_
      refine E_sub (M := mX7_find) (lv' := [(0, .ref 11), (1, .ref x1), (2, .int x2), (4, .int x4), (5, .int (x5 + 1))]) [1, 2, 3, 4, 0] rfl ?_
      exact ih x1 x2 x4 (x5 + 1) hx1 I5 L10 _ h
def f_X7_find (x1 : Nat) (x2 : Int32) (x3 : Int32) (x4 : Int32) (I : MI) (L : ML) : Option (Int32 × MI × ML) := Option.bind (pfI I 11 2 (I x1 3)) fun I1 => Option.bind (pfI I1 11 3 x3) fun I2 => Option.bind (pfI I2 11 4 ((1 <<< ((I2 11 2) &&& 31)) - 1)) fun I3 => Option.bind (pfL L 11 5 0) fun L4 => f_X7_find_33 FU x1 x2 x4 0 I3 L4
set_option maxRecDepth 100000 in
theorem S_X7_find {g : Gx} (x1 : Nat) (x2 : Int32) (x3 : Int32) (x4 : Int32) (hx1 : isH x1) (I : MI) (L : ML) (res : Int32 × MI × ML) (h : f_X7_find x1 x2 x3 x4 I L = some res) : E g 46 0 mX7_find 0 [(0, .ref 11), (1, .ref x1), (2, .int x2), (3, .int x3), (4, .int x4)] [] (I, L) (.inl (some (.int res.1))) (res.2.1, res.2.2) := by
  unfold f_X7_find at h
  refine E_aload_n (M := mX7_find) 1 rfl dX7_find_0 rfl 0 rfl ?_
  refine E_aload_n (M := mX7_find) 2 rfl dX7_find_1 rfl 1 rfl ?_
  refine E_gI (M := mX7_find) 5 rfl dX7_find_2 (sh_H hx1) fl_X7_33 rfl ?_
  replace h := Option.bind_eq_some_iff.mp h
  obtain ⟨I1, hI1, h⟩ := h
  refine E_pfI (M := mX7_find) 8 rfl dX7_find_5 shc_11 fl_X7_19 rfl hI1 ?_
  refine E_aload_n (M := mX7_find) 9 rfl dX7_find_8 rfl 0 rfl ?_
  refine E_iload_n (M := mX7_find) 10 rfl dX7_find_9 rfl 3 rfl ?_
  replace h := Option.bind_eq_some_iff.mp h
  obtain ⟨I2, hI2, h⟩ := h
  refine E_pfI (M := mX7_find) 13 rfl dX7_find_10 shc_11 fl_X7_23 rfl hI2 ?_
  refine E_aload_n (M := mX7_find) 14 rfl dX7_find_13 rfl 0 rfl ?_
  refine E_iconst (M := mX7_find) (v := 1) 15 rfl dX7_find_14 (by decide) ?_
  refine E_aload_n (M := mX7_find) 16 rfl dX7_find_15 rfl 0 rfl ?_
  refine E_gI (M := mX7_find) 19 rfl dX7_find_16 shc_11 fl_X7_19 rfl ?_
  refine E_ishl (M := mX7_find) 20 rfl dX7_find_19 ?_
  refine E_iconst (M := mX7_find) (v := 1) 21 rfl dX7_find_20 (by decide) ?_
  refine E_isub (M := mX7_find) 22 rfl dX7_find_21 ?_
  replace h := Option.bind_eq_some_iff.mp h
  obtain ⟨I3, hI3, h⟩ := h
  refine E_pfI (M := mX7_find) 25 rfl dX7_find_22 shc_11 fl_X7_26 rfl hI3 ?_
  refine E_aload_n (M := mX7_find) 26 rfl dX7_find_25 rfl 0 rfl ?_
  refine E_lconst (M := mX7_find) (v := 0) 27 rfl dX7_find_26 (by decide) ?_
  replace h := Option.bind_eq_some_iff.mp h
  obtain ⟨L4, hL4, h⟩ := h
  refine E_pfL (M := mX7_find) 30 rfl dX7_find_27 shc_11 fl_X7_29 rfl hL4 ?_
  refine E_iconst (M := mX7_find) (v := 0) 31 rfl dX7_find_30 (by decide) ?_
  refine E_istore (M := mX7_find) (lv' := [(5, .int 0), (0, .ref 11), (1, .ref x1), (2, .int x2), (3, .int x3), (4, .int x4)]) 33 rfl dX7_find_31 (Nat.le_of_ble_eq_true rfl) rfl ?_
  refine E_sub (M := mX7_find) (lv' := [(0, .ref 11), (1, .ref x1), (2, .int x2), (4, .int x4), (5, .int 0)]) [1, 2, 3, 5, 0] rfl ?_
  exact S_X7_find_33 FU x1 x2 x4 0 hx1 I3 L4 _ h
theorem C_X7_find {g : Gx} {x1 : Nat} {x2 : Int32} {x3 : Int32} {x4 : Int32} (hx1 : isH x1) {I : MI} {L : ML} {res : Int32 × MI × ML} (h : f_X7_find x1 x2 x3 x4 I L = some res) : Ent g 46 0 mX7_find [.ref 11, .ref x1, .int x2, .int x3, .int x4] (I, L) (.inl (some (.int res.1))) (res.2.1, res.2.2) := Ent_of (by decide +kernel) (Nat.le_of_ble_eq_true rfl) (S_X7_find x1 x2 x3 x4 hx1 I L _ h)
