def f_X8_check (x1 : Bool) (I : MI) (L : ML) : Option ((String ⊕ Unit) × MI × ML) := if x1 = true then (some (.inr (), I, L)) else (Option.bind (pfI I 1 7 (I 1 3)) fun I2 => some (.inl "java/lang/IllegalArgumentException", I2, L))
set_option maxRecDepth 100000 in
theorem S_X8_check {g : Gx} (x1 : Bool) (I : MI) (L : ML) (res : (String ⊕ Unit) × MI × ML) (h : f_X8_check x1 I L = some res) : E g 6 (bS res.1) mX8_check 0 [(0, .ref 1), (1, .int (bI x1))] [] (I, L) (rU res.1) (res.2.1, res.2.2) := by
  unfold f_X8_check at h
  refine E_iload_n (M := mX8_check) 1 rfl dX8_check_0 rfl 1 rfl ?_
  refine E_if_neB (M := mX8_check) 22 4 (by decide) rfl dX8_check_1 (fun c1 => ?_) (fun c1 => ?_)
  · rw [if_pos c1] at h
    cases h
    exact E_vret (M := mX8_check) rfl dX8_check_22
  · rw [if_neg (by rw [c1]; decide)] at h
    refine E_aload_n (M := mX8_check) 5 rfl dX8_check_4 rfl 0 rfl ?_
    refine E_aload_n (M := mX8_check) 6 rfl dX8_check_5 rfl 0 rfl ?_
    refine E_gI (M := mX8_check) 9 rfl dX8_check_6 shc_1 fl_X8_22 rfl ?_
    replace h := Option.bind_eq_some_iff.mp h
    obtain ⟨I2, hI2, h⟩ := h
    refine E_pfI (M := mX8_check) 12 rfl dX8_check_9 shc_1 fl_X8_34 rfl hI2 ?_
    cases h
    exact E_throw (M := mX8_check) (i := 0) tk_X8_52 rfl dX8_check_12 dX8_check_15 dX8_check_16 dX8_check_18 dX8_check_21 (by decide)
theorem C_X8_check {g : Gx} {x1 : Bool} {I : MI} {L : ML} {res : (String ⊕ Unit) × MI × ML} (h : f_X8_check x1 I L = some res) : Ent g 6 (bS res.1) mX8_check [.ref 1, .int (bI x1)] (I, L) (rU res.1) (res.2.1, res.2.2) := Ent_of (by decide +kernel) (Nat.le_of_ble_eq_true rfl) (S_X8_check x1 I L _ h)
def f_X8_isWord_28 : Nat → Nat → Int32 → MI → ML → Option (Bool)
  | 0, _, _, _, _ => none
  | n + 1, x1, x2, I, L => if (nI (sLen x1)) ≤ x2 then (some true) else (Option.bind (ldI I 2 400 ((I 1 3) + x2)) fun v2 => Option.bind (chrAt x1 x2) fun v3 => if v2 = v3 then (f_X8_isWord_28 n x1 (x2 + 1) I L) else (some false))
set_option maxRecDepth 100000 in
theorem S_X8_isWord_28 {g : Gx} : ∀ (n : Nat) (x1 : Nat) (x2 : Int32) (hx1 : x1 < 66) (I : MI) (L : ML) (res : Bool), f_X8_isWord_28 n x1 x2 I L = some res → E g 5 0 mX8_isWord 28 [(0, .ref 1), (1, .ref (100000 + x1)), (2, .int x2)] [] (I, L) (.inl (some (.int (bI res)))) (I, L) := by
  intro n
  induction n with
  | zero =>
    intros
    rename_i h
    cases h
  | succ n ih =>
    intro x1 x2 hx1 I L res h
    rw [f_X8_isWord_28] at h
    refine E_iload_n (M := mX8_isWord) 29 rfl dX8_isWord_28 rfl 2 rfl ?_
    refine E_aload_n (M := mX8_isWord) 30 rfl dX8_isWord_29 rfl 1 rfl ?_
    refine E_slen (M := mX8_isWord) hx1 33 rfl dX8_isWord_30 jb_X8_55 (by decide) (Nat.le_of_ble_eq_true rfl) ?_
    refine E_icmp_ge (M := mX8_isWord) 63 36 (by decide) rfl dX8_isWord_33 (fun c1 => ?_) (fun c1 => ?_)
    · rw [if_pos c1] at h
      refine E_iconst (M := mX8_isWord) (v := 1) 64 rfl dX8_isWord_63 (by decide) ?_
      cases h
      exact E_zret (M := mX8_isWord) (x := true) rfl dX8_isWord_64
    · rw [if_neg c1] at h
      refine E_aload_n (M := mX8_isWord) 37 rfl dX8_isWord_36 rfl 0 rfl ?_
      refine E_gR (M := mX8_isWord) 2 40 rfl dX8_isWord_37 shc_1 fl_X8_9 rfl (by decide) (by decide) ?_
      refine E_aload_n (M := mX8_isWord) 41 rfl dX8_isWord_40 rfl 0 rfl ?_
      refine E_gI (M := mX8_isWord) 44 rfl dX8_isWord_41 shc_1 fl_X8_22 rfl ?_
      refine E_iload_n (M := mX8_isWord) 45 rfl dX8_isWord_44 rfl 2 rfl ?_
      refine E_iadd (M := mX8_isWord) 46 rfl dX8_isWord_45 ?_
      replace h := Option.bind_eq_some_iff.mp h
      obtain ⟨v2, hv2, h⟩ := h
      refine E_ldB (M := mX8_isWord) 47 rfl dX8_isWord_46 shc_2 hv2 ?_
      refine E_aload_n (M := mX8_isWord) 48 rfl dX8_isWord_47 rfl 1 rfl ?_
      refine E_iload_n (M := mX8_isWord) 49 rfl dX8_isWord_48 rfl 2 rfl ?_
      replace h := Option.bind_eq_some_iff.mp h
      obtain ⟨v3, hv3, h⟩ := h
      refine E_schr (M := mX8_isWord) hx1 52 rfl dX8_isWord_49 jb_X8_59 (by decide) (Nat.le_of_ble_eq_true rfl) hv3 ?_
      refine E_icmp_eq (M := mX8_isWord) 57 55 (by decide) rfl dX8_isWord_52 (fun c4 => ?_) (fun c4 => ?_)
      · rw [if_pos c4] at h
        refine E_iinc (M := mX8_isWord) (j := 2) (v := x2 + 1) (lv' := [(2, .int (x2 + 1)), (0, .ref 1), (1, .ref (100000 + x1))]) 60 rfl dX8_isWord_57 rfl rfl (Nat.le_of_ble_eq_true rfl) rfl ?_
        refine E_goto (M := mX8_isWord) 28 (by decide) dX8_isWord_60 ?_
        refine E_sub (M := mX8_isWord) (lv' := [(0, .ref 1), (1, .ref (100000 + x1)), (2, .int (x2 + 1))]) [1, 2, 0] rfl ?_
        exact ih x1 (x2 + 1) hx1 I L _ h
      · rw [if_neg c4] at h
        refine E_iconst (M := mX8_isWord) (v := 0) 56 rfl dX8_isWord_55 (by decide) ?_
        cases h
        exact E_zret (M := mX8_isWord) (x := false) rfl dX8_isWord_56
def f_X8_isWord_24 (I : MI) (L : ML) : Option (Bool) := some false
set_option maxRecDepth 100000 in
theorem S_X8_isWord_24 {g : Gx} (I : MI) (L : ML) (res : Bool) (h : f_X8_isWord_24 I L = some res) : E g 5 0 mX8_isWord 24 [] [] (I, L) (.inl (some (.int (bI res)))) (I, L) := by
  unfold f_X8_isWord_24 at h
  refine E_iconst (M := mX8_isWord) (v := 0) 25 rfl dX8_isWord_24 (by decide) ?_
  cases h
  exact E_zret (M := mX8_isWord) (x := false) rfl dX8_isWord_25
def f_X8_isWord (x1 : Nat) (I : MI) (L : ML) : Option (Bool) := if (I 1 5) = 1 then (if ((I 1 4) - (I 1 3)) = (nI (sLen x1)) then (f_X8_isWord_28 FU x1 0 I L) else (f_X8_isWord_24 I L)) else (f_X8_isWord_24 I L)
set_option maxRecDepth 100000 in
theorem S_X8_isWord {g : Gx} (x1 : Nat) (hx1 : x1 < 66) (I : MI) (L : ML) (res : Bool) (h : f_X8_isWord x1 I L = some res) : E g 5 0 mX8_isWord 0 [(0, .ref 1), (1, .ref (100000 + x1))] [] (I, L) (.inl (some (.int (bI res)))) (I, L) := by
  unfold f_X8_isWord at h
  refine E_aload_n (M := mX8_isWord) 1 rfl dX8_isWord_0 rfl 0 rfl ?_
  refine E_gI (M := mX8_isWord) 4 rfl dX8_isWord_1 shc_1 fl_X8_28 rfl ?_
  refine E_iconst (M := mX8_isWord) (v := 1) 5 rfl dX8_isWord_4 (by decide) ?_
  refine E_icmp_ne (M := mX8_isWord) 24 8 (by decide) rfl dX8_isWord_5 (fun c1 => ?_) (fun c1 => ?_)
  · rw [if_neg c1] at h
    refine E_sub (M := mX8_isWord) (lv' := []) [] rfl ?_
    exact S_X8_isWord_24 I L _ h
  · rw [if_pos c1] at h
    refine E_aload_n (M := mX8_isWord) 9 rfl dX8_isWord_8 rfl 0 rfl ?_
    refine E_gI (M := mX8_isWord) 12 rfl dX8_isWord_9 shc_1 fl_X8_25 rfl ?_
    refine E_aload_n (M := mX8_isWord) 13 rfl dX8_isWord_12 rfl 0 rfl ?_
    refine E_gI (M := mX8_isWord) 16 rfl dX8_isWord_13 shc_1 fl_X8_22 rfl ?_
    refine E_isub (M := mX8_isWord) 17 rfl dX8_isWord_16 ?_
    refine E_aload_n (M := mX8_isWord) 18 rfl dX8_isWord_17 rfl 1 rfl ?_
    refine E_slen (M := mX8_isWord) hx1 21 rfl dX8_isWord_18 jb_X8_55 (by decide) (Nat.le_of_ble_eq_true rfl) ?_
    refine E_icmp_eq (M := mX8_isWord) 26 24 (by decide) rfl dX8_isWord_21 (fun c2 => ?_) (fun c2 => ?_)
    · rw [if_pos c2] at h
      refine E_iconst (M := mX8_isWord) (v := 0) 27 rfl dX8_isWord_26 (by decide) ?_
      refine E_istore_n (M := mX8_isWord) (lv' := [(2, .int 0), (0, .ref 1), (1, .ref (100000 + x1))]) 28 rfl dX8_isWord_27 rfl (Nat.le_of_ble_eq_true rfl) rfl ?_
      refine E_sub (M := mX8_isWord) (lv' := [(0, .ref 1), (1, .ref (100000 + x1)), (2, .int 0)]) [1, 2, 0] rfl ?_
      exact S_X8_isWord_28 FU x1 0 hx1 I L _ h
    · rw [if_neg c2] at h
      refine E_sub (M := mX8_isWord) (lv' := []) [] rfl ?_
      exact S_X8_isWord_24 I L _ h
theorem C_X8_isWord {g : Gx} {x1 : Nat} (hx1 : x1 < 66) {I : MI} {L : ML} {res : Bool} (h : f_X8_isWord x1 I L = some res) : Ent g 5 0 mX8_isWord [.ref 1, .ref (100000 + x1)] (I, L) (.inl (some (.int (bI res)))) (I, L) := Ent_of (by decide +kernel) (Nat.le_of_ble_eq_true rfl) (S_X8_isWord x1 hx1 I L _ h)
def f_X8_sortOf_50 (y0 : Int32) (I : MI) (L : ML) : Option (Int32) := some y0
set_option maxRecDepth 100000 in
theorem S_X8_sortOf_50 {g : Gx} (y0 : Int32) (I : MI) (L : ML) (res : Int32) (h : f_X8_sortOf_50 y0 I L = some res) : E g 1 0 mX8_sortOf 50 [] [.int y0] (I, L) (.inl (some (.int res))) (I, L) := by
  unfold f_X8_sortOf_50 at h
  cases h
  exact E_iret (M := mX8_sortOf) rfl dX8_sortOf_50
def f_X8_sortOf_49 (I : MI) (L : ML) : Option (Int32) := f_X8_sortOf_50 3 I L
set_option maxRecDepth 100000 in
theorem S_X8_sortOf_49 {g : Gx} (I : MI) (L : ML) (res : Int32) (h : f_X8_sortOf_49 I L = some res) : E g 1 0 mX8_sortOf 49 [] [] (I, L) (.inl (some (.int res))) (I, L) := by
  unfold f_X8_sortOf_49 at h
  refine E_iconst (M := mX8_sortOf) (v := 3) 50 rfl dX8_sortOf_49 (by decide) ?_
  refine E_sub (M := mX8_sortOf) (lv' := []) [] rfl ?_
  exact S_X8_sortOf_50 3 I L _ h
def f_X8_sortOf_33 (x2 : Int32) (I : MI) (L : ML) : Option (Int32) := if x2 < 48 then (f_X8_sortOf_49 I L) else (if 57 < x2 then (f_X8_sortOf_49 I L) else (f_X8_sortOf_50 2 I L))
set_option maxRecDepth 100000 in
theorem S_X8_sortOf_33 {g : Gx} (x2 : Int32) (I : MI) (L : ML) (res : Int32) (h : f_X8_sortOf_33 x2 I L = some res) : E g 1 0 mX8_sortOf 33 [(2, .int x2)] [] (I, L) (.inl (some (.int res))) (I, L) := by
  unfold f_X8_sortOf_33 at h
  refine E_iload_n (M := mX8_sortOf) 34 rfl dX8_sortOf_33 rfl 0 rfl ?_
  refine E_bipush (M := mX8_sortOf) (v := 48) 36 rfl dX8_sortOf_34 (by decide) ?_
  refine E_icmp_lt (M := mX8_sortOf) 49 39 (by decide) rfl dX8_sortOf_36 (fun c1 => ?_) (fun c1 => ?_)
  · rw [if_pos c1] at h
    refine E_sub (M := mX8_sortOf) (lv' := []) [] rfl ?_
    exact S_X8_sortOf_49 I L _ h
  · rw [if_neg c1] at h
    refine E_iload_n (M := mX8_sortOf) 40 rfl dX8_sortOf_39 rfl 0 rfl ?_
    refine E_bipush (M := mX8_sortOf) (v := 57) 42 rfl dX8_sortOf_40 (by decide) ?_
    refine E_icmp_gt (M := mX8_sortOf) 49 45 (by decide) rfl dX8_sortOf_42 (fun c2 => ?_) (fun c2 => ?_)
    · rw [if_pos c2] at h
      refine E_sub (M := mX8_sortOf) (lv' := []) [] rfl ?_
      exact S_X8_sortOf_49 I L _ h
    · rw [if_neg c2] at h
      refine E_iconst (M := mX8_sortOf) (v := 2) 46 rfl dX8_sortOf_45 (by decide) ?_
      refine E_goto (M := mX8_sortOf) 50 (by decide) dX8_sortOf_46 ?_
      refine E_sub (M := mX8_sortOf) (lv' := []) [] rfl ?_
      exact S_X8_sortOf_50 2 I L _ h
def f_X8_sortOf (x1 : Int32) (I : MI) (L : ML) : Option (Int32) := if x1 < (I 1 2) then (Option.bind (ldI I 2 400 x1) fun v2 => if v2 < 97 then (f_X8_sortOf_33 v2 I L) else (if 122 < v2 then (f_X8_sortOf_33 v2 I L) else (f_X8_sortOf_50 1 I L))) else (some 0)
set_option maxRecDepth 100000 in
theorem S_X8_sortOf {g : Gx} (x1 : Int32) (I : MI) (L : ML) (res : Int32) (h : f_X8_sortOf x1 I L = some res) : E g 1 0 mX8_sortOf 0 [(0, .ref 1), (1, .int x1)] [] (I, L) (.inl (some (.int res))) (I, L) := by
  unfold f_X8_sortOf at h
  refine E_iload_n (M := mX8_sortOf) 1 rfl dX8_sortOf_0 rfl 1 rfl ?_
  refine E_aload_n (M := mX8_sortOf) 2 rfl dX8_sortOf_1 rfl 0 rfl ?_
  refine E_gI (M := mX8_sortOf) 5 rfl dX8_sortOf_2 shc_1 fl_X8_19 rfl ?_
  refine E_icmp_lt (M := mX8_sortOf) 10 8 (by decide) rfl dX8_sortOf_5 (fun c1 => ?_) (fun c1 => ?_)
  · rw [if_pos c1] at h
    refine E_aload_n (M := mX8_sortOf) 11 rfl dX8_sortOf_10 rfl 0 rfl ?_
    refine E_gR (M := mX8_sortOf) 2 14 rfl dX8_sortOf_11 shc_1 fl_X8_9 rfl (by decide) (by decide) ?_
    refine E_iload_n (M := mX8_sortOf) 15 rfl dX8_sortOf_14 rfl 1 rfl ?_
    replace h := Option.bind_eq_some_iff.mp h
    obtain ⟨v2, hv2, h⟩ := h
    refine E_ldB (M := mX8_sortOf) 16 rfl dX8_sortOf_15 shc_2 hv2 ?_
    refine E_istore_n (M := mX8_sortOf) (lv' := [(2, .int v2), (0, .ref 1), (1, .int x1)]) 17 rfl dX8_sortOf_16 rfl (Nat.le_of_ble_eq_true rfl) rfl ?_
    refine E_iload_n (M := mX8_sortOf) 18 rfl dX8_sortOf_17 rfl 0 rfl ?_
    refine E_bipush (M := mX8_sortOf) (v := 97) 20 rfl dX8_sortOf_18 (by decide) ?_
    refine E_icmp_lt (M := mX8_sortOf) 33 23 (by decide) rfl dX8_sortOf_20 (fun c3 => ?_) (fun c3 => ?_)
    · rw [if_pos c3] at h
      refine E_sub (M := mX8_sortOf) (lv' := [(2, .int v2)]) [0] rfl ?_
      exact S_X8_sortOf_33 v2 I L _ h
    · rw [if_neg c3] at h
      refine E_iload_n (M := mX8_sortOf) 24 rfl dX8_sortOf_23 rfl 0 rfl ?_
      refine E_bipush (M := mX8_sortOf) (v := 122) 26 rfl dX8_sortOf_24 (by decide) ?_
      refine E_icmp_gt (M := mX8_sortOf) 33 29 (by decide) rfl dX8_sortOf_26 (fun c4 => ?_) (fun c4 => ?_)
      · rw [if_pos c4] at h
        refine E_sub (M := mX8_sortOf) (lv' := [(2, .int v2)]) [0] rfl ?_
        exact S_X8_sortOf_33 v2 I L _ h
      · rw [if_neg c4] at h
        refine E_iconst (M := mX8_sortOf) (v := 1) 30 rfl dX8_sortOf_29 (by decide) ?_
        refine E_goto (M := mX8_sortOf) 50 (by decide) dX8_sortOf_30 ?_
        refine E_sub (M := mX8_sortOf) (lv' := []) [] rfl ?_
        exact S_X8_sortOf_50 1 I L _ h
  · rw [if_neg c1] at h
    refine E_iconst (M := mX8_sortOf) (v := 0) 9 rfl dX8_sortOf_8 (by decide) ?_
    cases h
    exact E_iret (M := mX8_sortOf) rfl dX8_sortOf_9
theorem C_X8_sortOf {g : Gx} {x1 : Int32} {I : MI} {L : ML} {res : Int32} (h : f_X8_sortOf x1 I L = some res) : Ent g 1 0 mX8_sortOf [.ref 1, .int x1] (I, L) (.inl (some (.int res))) (I, L) := Ent_of (by decide +kernel) (Nat.le_of_ble_eq_true rfl) (S_X8_sortOf x1 I L _ h)
def f_X8_step_210 (I : MI) (L : ML) : Option (MI × ML) := some (I, L)
set_option maxRecDepth 100000 in
theorem S_X8_step_210 {g : Gx} (I : MI) (L : ML) (res : MI × ML) (h : f_X8_step_210 I L = some res) : E g 2 0 mX8_step 210 [] [] (I, L) (.inl none) (res.1, res.2) := by
  unfold f_X8_step_210 at h
  cases h
  exact E_vret (M := mX8_step) rfl dX8_step_210
def f_X8_step_175 : Nat → Int32 → MI → ML → Option (MI × ML)
  | 0, _, _, _ => none
  | n + 1, x1, I, L => if (I 1 4) ≤ x1 then (f_X8_step_210 I L) else (Option.bind (ldI I 2 400 x1) fun v2 => Option.bind (pfI I 1 6 (((10 * (I 1 6)) + v2) - 48)) fun I3 => f_X8_step_175 n (x1 + 1) I3 L)
set_option maxRecDepth 100000 in
theorem S_X8_step_175 {g : Gx} : ∀ (n : Nat) (x1 : Int32) (I : MI) (L : ML) (res : MI × ML), f_X8_step_175 n x1 I L = some res → E g 2 0 mX8_step 175 [(0, .ref 1), (1, .int x1)] [] (I, L) (.inl none) (res.1, res.2) := by
  intro n
  induction n with
  | zero =>
    intros
    rename_i h
    cases h
  | succ n ih =>
    intro x1 I L res h
    rw [f_X8_step_175] at h
    refine E_iload_n (M := mX8_step) 176 rfl dX8_step_175 rfl 1 rfl ?_
    refine E_aload_n (M := mX8_step) 177 rfl dX8_step_176 rfl 0 rfl ?_
    refine E_gI (M := mX8_step) 180 rfl dX8_step_177 shc_1 fl_X8_25 rfl ?_
    refine E_icmp_ge (M := mX8_step) 210 183 (by decide) rfl dX8_step_180 (fun c1 => ?_) (fun c1 => ?_)
    · rw [if_pos c1] at h
      refine E_sub (M := mX8_step) (lv' := []) [] rfl ?_
      exact S_X8_step_210 I L _ h
    · rw [if_neg c1] at h
      refine E_aload_n (M := mX8_step) 184 rfl dX8_step_183 rfl 0 rfl ?_
      refine E_bipush (M := mX8_step) (v := 10) 186 rfl dX8_step_184 (by decide) ?_
      refine E_aload_n (M := mX8_step) 187 rfl dX8_step_186 rfl 0 rfl ?_
      refine E_gI (M := mX8_step) 190 rfl dX8_step_187 shc_1 fl_X8_31 rfl ?_
      refine E_imul (M := mX8_step) 191 rfl dX8_step_190 ?_
      refine E_aload_n (M := mX8_step) 192 rfl dX8_step_191 rfl 0 rfl ?_
      refine E_gR (M := mX8_step) 2 195 rfl dX8_step_192 shc_1 fl_X8_9 rfl (by decide) (by decide) ?_
      refine E_iload_n (M := mX8_step) 196 rfl dX8_step_195 rfl 1 rfl ?_
      replace h := Option.bind_eq_some_iff.mp h
      obtain ⟨v2, hv2, h⟩ := h
      refine E_ldB (M := mX8_step) 197 rfl dX8_step_196 shc_2 hv2 ?_
      refine E_iadd (M := mX8_step) 198 rfl dX8_step_197 ?_
      refine E_bipush (M := mX8_step) (v := 48) 200 rfl dX8_step_198 (by decide) ?_
      refine E_isub (M := mX8_step) 201 rfl dX8_step_200 ?_
      replace h := Option.bind_eq_some_iff.mp h
      obtain ⟨I3, hI3, h⟩ := h
      refine E_pfI (M := mX8_step) 204 rfl dX8_step_201 shc_1 fl_X8_31 rfl hI3 ?_
      refine E_iinc (M := mX8_step) (j := 1) (v := x1 + 1) (lv' := [(1, .int (x1 + 1)), (0, .ref 1)]) 207 rfl dX8_step_204 rfl rfl (Nat.le_of_ble_eq_true rfl) rfl ?_
      refine E_goto (M := mX8_step) 175 (by decide) dX8_step_207 ?_
      refine E_sub (M := mX8_step) (lv' := [(0, .ref 1), (1, .int (x1 + 1))]) [1, 0] rfl ?_
      exact ih (x1 + 1) I3 L _ h
def f_X8_step_144 (I : MI) (L : ML) : Option (MI × ML) := if (I 1 5) = 2 then (if 3 < ((I 1 4) - (I 1 3)) then (f_X8_step_210 I L) else (Option.bind (pfI I 1 6 0) fun I3 => f_X8_step_175 FU (I3 1 3) I3 L)) else (f_X8_step_210 I L)
set_option maxRecDepth 100000 in
theorem S_X8_step_144 {g : Gx} (I : MI) (L : ML) (res : MI × ML) (h : f_X8_step_144 I L = some res) : E g 2 0 mX8_step 144 [(0, .ref 1)] [] (I, L) (.inl none) (res.1, res.2) := by
  unfold f_X8_step_144 at h
  refine E_aload_n (M := mX8_step) 145 rfl dX8_step_144 rfl 0 rfl ?_
  refine E_gI (M := mX8_step) 148 rfl dX8_step_145 shc_1 fl_X8_28 rfl ?_
  refine E_iconst (M := mX8_step) (v := 2) 149 rfl dX8_step_148 (by decide) ?_
  refine E_icmp_ne (M := mX8_step) 210 152 (by decide) rfl dX8_step_149 (fun c1 => ?_) (fun c1 => ?_)
  · rw [if_neg c1] at h
    refine E_sub (M := mX8_step) (lv' := []) [] rfl ?_
    exact S_X8_step_210 I L _ h
  · rw [if_pos c1] at h
    refine E_aload_n (M := mX8_step) 153 rfl dX8_step_152 rfl 0 rfl ?_
    refine E_gI (M := mX8_step) 156 rfl dX8_step_153 shc_1 fl_X8_25 rfl ?_
    refine E_aload_n (M := mX8_step) 157 rfl dX8_step_156 rfl 0 rfl ?_
    refine E_gI (M := mX8_step) 160 rfl dX8_step_157 shc_1 fl_X8_22 rfl ?_
    refine E_isub (M := mX8_step) 161 rfl dX8_step_160 ?_
    refine E_iconst (M := mX8_step) (v := 3) 162 rfl dX8_step_161 (by decide) ?_
    refine E_icmp_gt (M := mX8_step) 210 165 (by decide) rfl dX8_step_162 (fun c2 => ?_) (fun c2 => ?_)
    · rw [if_pos c2] at h
      refine E_sub (M := mX8_step) (lv' := []) [] rfl ?_
      exact S_X8_step_210 I L _ h
    · rw [if_neg c2] at h
      refine E_aload_n (M := mX8_step) 166 rfl dX8_step_165 rfl 0 rfl ?_
      refine E_iconst (M := mX8_step) (v := 0) 167 rfl dX8_step_166 (by decide) ?_
      replace h := Option.bind_eq_some_iff.mp h
      obtain ⟨I3, hI3, h⟩ := h
      refine E_pfI (M := mX8_step) 170 rfl dX8_step_167 shc_1 fl_X8_31 rfl hI3 ?_
      refine E_aload_n (M := mX8_step) 171 rfl dX8_step_170 rfl 0 rfl ?_
      refine E_gI (M := mX8_step) 174 rfl dX8_step_171 shc_1 fl_X8_22 rfl ?_
      refine E_istore_n (M := mX8_step) (lv' := [(1, .int (I3 1 3)), (0, .ref 1)]) 175 rfl dX8_step_174 rfl (Nat.le_of_ble_eq_true rfl) rfl ?_
      refine E_sub (M := mX8_step) (lv' := [(0, .ref 1), (1, .int (I3 1 3))]) [1, 0] rfl ?_
      exact S_X8_step_175 FU (I3 1 3) I3 L _ h
def f_X8_step_87 : Nat → MI → ML → Option (MI × ML)
  | 0, _, _ => none
  | n + 1, I, L => if (I 1 2) ≤ (I 1 4) then (f_X8_step_144 I L) else (Option.bind (f_X8_sortOf (I 1 4) I L) fun v2 => if v2 = (I 1 5) then (Option.bind (pfI I 1 4 ((I 1 4) + 1)) fun I4 => f_X8_step_87 n I4 L) else (f_X8_step_144 I L))
set_option maxRecDepth 100000 in
theorem S_X8_step_87 {g : Gx} : ∀ (n : Nat) (I : MI) (L : ML) (res : MI × ML), f_X8_step_87 n I L = some res → E g 2 0 mX8_step 87 [(0, .ref 1)] [] (I, L) (.inl none) (res.1, res.2) := by
  intro n
  induction n with
  | zero =>
    intros
    rename_i h
    cases h
  | succ n ih =>
    intro I L res h
    rw [f_X8_step_87] at h
    refine E_aload_n (M := mX8_step) 88 rfl dX8_step_87 rfl 0 rfl ?_
    refine E_gI (M := mX8_step) 91 rfl dX8_step_88 shc_1 fl_X8_25 rfl ?_
    refine E_aload_n (M := mX8_step) 92 rfl dX8_step_91 rfl 0 rfl ?_
    refine E_gI (M := mX8_step) 95 rfl dX8_step_92 shc_1 fl_X8_19 rfl ?_
    refine E_icmp_ge (M := mX8_step) 144 98 (by decide) rfl dX8_step_95 (fun c1 => ?_) (fun c1 => ?_)
    · rw [if_pos c1] at h
      refine E_sub (M := mX8_step) (lv' := [(0, .ref 1)]) [0] rfl ?_
      exact S_X8_step_144 I L _ h
    · rw [if_neg c1] at h
      refine E_aload_n (M := mX8_step) 99 rfl dX8_step_98 rfl 0 rfl ?_
      refine E_aload_n (M := mX8_step) 100 rfl dX8_step_99 rfl 0 rfl ?_
      refine E_gI (M := mX8_step) 103 rfl dX8_step_100 shc_1 fl_X8_25 rfl ?_
      replace h := Option.bind_eq_some_iff.mp h
      obtain ⟨v2, hv2, h⟩ := h
      refine E_cV1 (M := mX8_step) (As := [.int (I 1 4)]) 106 rfl dX8_step_103 shc_1 ck_X8_44 cv_X8_sortOf rfl (by decide) (Nat.le_of_ble_eq_true rfl) (C_X8_sortOf (g := g) hv2) rfl ?_
      refine E_aload_n (M := mX8_step) 107 rfl dX8_step_106 rfl 0 rfl ?_
      refine E_gI (M := mX8_step) 110 rfl dX8_step_107 shc_1 fl_X8_28 rfl ?_
      refine E_icmp_ne (M := mX8_step) 144 113 (by decide) rfl dX8_step_110 (fun c3 => ?_) (fun c3 => ?_)
      · rw [if_neg c3] at h
        refine E_sub (M := mX8_step) (lv' := [(0, .ref 1)]) [0] rfl ?_
        exact S_X8_step_144 I L _ h
      · rw [if_pos c3] at h
        refine E_aload_n (M := mX8_step) 114 rfl dX8_step_113 rfl 0 rfl ?_
        refine E_dup (M := mX8_step) 115 rfl dX8_step_114 rfl ?_
        refine E_gI (M := mX8_step) 118 rfl dX8_step_115 shc_1 fl_X8_25 rfl ?_
        refine E_iconst (M := mX8_step) (v := 1) 119 rfl dX8_step_118 (by decide) ?_
        refine E_iadd (M := mX8_step) 120 rfl dX8_step_119 ?_
        replace h := Option.bind_eq_some_iff.mp h
        obtain ⟨I4, hI4, h⟩ := h
        refine E_pfI (M := mX8_step) 123 rfl dX8_step_120 shc_1 fl_X8_25 rfl hI4 ?_
        refine E_goto (M := mX8_step) 87 (by decide) dX8_step_123 ?_
        refine E_sub (M := mX8_step) (lv' := [(0, .ref 1)]) [0] rfl ?_
        exact ih I4 L _ h
def f_X8_step_46 (I : MI) (L : ML) : Option (MI × ML) := Option.bind (pfI I 1 4 (I 1 3)) fun I1 => Option.bind (pfI I1 1 6 ((-1))) fun I2 => Option.bind (f_X8_sortOf (I2 1 3) I2 L) fun v3 => Option.bind (pfI I2 1 5 v3) fun I4 => if (I4 1 5) = 1 then (f_X8_step_87 FU I4 L) else (if (I4 1 5) = 2 then (f_X8_step_87 FU I4 L) else (if (I4 1 5) = 3 then (Option.bind (pfI I4 1 4 ((I4 1 4) + 1)) fun I8 => f_X8_step_144 I8 L) else (f_X8_step_144 I4 L)))
set_option maxRecDepth 100000 in
theorem S_X8_step_46 {g : Gx} (I : MI) (L : ML) (res : MI × ML) (h : f_X8_step_46 I L = some res) : E g 2 0 mX8_step 46 [(0, .ref 1)] [] (I, L) (.inl none) (res.1, res.2) := by
  unfold f_X8_step_46 at h
  refine E_aload_n (M := mX8_step) 47 rfl dX8_step_46 rfl 0 rfl ?_
  refine E_aload_n (M := mX8_step) 48 rfl dX8_step_47 rfl 0 rfl ?_
  refine E_gI (M := mX8_step) 51 rfl dX8_step_48 shc_1 fl_X8_22 rfl ?_
  replace h := Option.bind_eq_some_iff.mp h
  obtain ⟨I1, hI1, h⟩ := h
  refine E_pfI (M := mX8_step) 54 rfl dX8_step_51 shc_1 fl_X8_25 rfl hI1 ?_
  refine E_aload_n (M := mX8_step) 55 rfl dX8_step_54 rfl 0 rfl ?_
  refine E_iconst (M := mX8_step) (v := (-1)) 56 rfl dX8_step_55 (by decide) ?_
  replace h := Option.bind_eq_some_iff.mp h
  obtain ⟨I2, hI2, h⟩ := h
  refine E_pfI (M := mX8_step) 59 rfl dX8_step_56 shc_1 fl_X8_31 rfl hI2 ?_
  refine E_aload_n (M := mX8_step) 60 rfl dX8_step_59 rfl 0 rfl ?_
  refine E_aload_n (M := mX8_step) 61 rfl dX8_step_60 rfl 0 rfl ?_
  refine E_aload_n (M := mX8_step) 62 rfl dX8_step_61 rfl 0 rfl ?_
  refine E_gI (M := mX8_step) 65 rfl dX8_step_62 shc_1 fl_X8_22 rfl ?_
  replace h := Option.bind_eq_some_iff.mp h
  obtain ⟨v3, hv3, h⟩ := h
  refine E_cV1 (M := mX8_step) (As := [.int (I2 1 3)]) 68 rfl dX8_step_65 shc_1 ck_X8_44 cv_X8_sortOf rfl (by decide) (Nat.le_of_ble_eq_true rfl) (C_X8_sortOf (g := g) hv3) rfl ?_
  replace h := Option.bind_eq_some_iff.mp h
  obtain ⟨I4, hI4, h⟩ := h
  refine E_pfI (M := mX8_step) 71 rfl dX8_step_68 shc_1 fl_X8_28 rfl hI4 ?_
  refine E_aload_n (M := mX8_step) 72 rfl dX8_step_71 rfl 0 rfl ?_
  refine E_gI (M := mX8_step) 75 rfl dX8_step_72 shc_1 fl_X8_28 rfl ?_
  refine E_iconst (M := mX8_step) (v := 1) 76 rfl dX8_step_75 (by decide) ?_
  refine E_icmp_eq (M := mX8_step) 87 79 (by decide) rfl dX8_step_76 (fun c5 => ?_) (fun c5 => ?_)
  · rw [if_pos c5] at h
    refine E_sub (M := mX8_step) (lv' := [(0, .ref 1)]) [0] rfl ?_
    exact S_X8_step_87 FU I4 L _ h
  · rw [if_neg c5] at h
    refine E_aload_n (M := mX8_step) 80 rfl dX8_step_79 rfl 0 rfl ?_
    refine E_gI (M := mX8_step) 83 rfl dX8_step_80 shc_1 fl_X8_28 rfl ?_
    refine E_iconst (M := mX8_step) (v := 2) 84 rfl dX8_step_83 (by decide) ?_
    refine E_icmp_ne (M := mX8_step) 126 87 (by decide) rfl dX8_step_84 (fun c6 => ?_) (fun c6 => ?_)
    · rw [if_neg c6] at h
      refine E_aload_n (M := mX8_step) 127 rfl dX8_step_126 rfl 0 rfl ?_
      refine E_gI (M := mX8_step) 130 rfl dX8_step_127 shc_1 fl_X8_28 rfl ?_
      refine E_iconst (M := mX8_step) (v := 3) 131 rfl dX8_step_130 (by decide) ?_
      refine E_icmp_ne (M := mX8_step) 144 134 (by decide) rfl dX8_step_131 (fun c7 => ?_) (fun c7 => ?_)
      · rw [if_neg c7] at h
        refine E_sub (M := mX8_step) (lv' := [(0, .ref 1)]) [0] rfl ?_
        exact S_X8_step_144 I4 L _ h
      · rw [if_pos c7] at h
        refine E_aload_n (M := mX8_step) 135 rfl dX8_step_134 rfl 0 rfl ?_
        refine E_dup (M := mX8_step) 136 rfl dX8_step_135 rfl ?_
        refine E_gI (M := mX8_step) 139 rfl dX8_step_136 shc_1 fl_X8_25 rfl ?_
        refine E_iconst (M := mX8_step) (v := 1) 140 rfl dX8_step_139 (by decide) ?_
        refine E_iadd (M := mX8_step) 141 rfl dX8_step_140 ?_
        replace h := Option.bind_eq_some_iff.mp h
        obtain ⟨I8, hI8, h⟩ := h
        refine E_pfI (M := mX8_step) 144 rfl dX8_step_141 shc_1 fl_X8_25 rfl hI8 ?_
        refine E_sub (M := mX8_step) (lv' := [(0, .ref 1)]) [0] rfl ?_
        exact S_X8_step_144 I8 L _ h
    · rw [if_pos c6] at h
      refine E_sub (M := mX8_step) (lv' := [(0, .ref 1)]) [0] rfl ?_
      exact S_X8_step_87 FU I4 L _ h
def f_X8_step_8 : Nat → MI → ML → Option (MI × ML)
  | 0, _, _ => none
  | n + 1, I, L => if (I 1 2) ≤ (I 1 3) then (f_X8_step_46 I L) else (Option.bind (ldI I 2 400 (I 1 3)) fun v2 => if v2 = 32 then (Option.bind (pfI I 1 3 ((I 1 3) + 1)) fun I4 => f_X8_step_8 n I4 L) else (f_X8_step_46 I L))
set_option maxRecDepth 100000 in
theorem S_X8_step_8 {g : Gx} : ∀ (n : Nat) (I : MI) (L : ML) (res : MI × ML), f_X8_step_8 n I L = some res → E g 2 0 mX8_step 8 [(0, .ref 1)] [] (I, L) (.inl none) (res.1, res.2) := by
  intro n
  induction n with
  | zero =>
    intros
    rename_i h
    cases h
  | succ n ih =>
    intro I L res h
    rw [f_X8_step_8] at h
    refine E_aload_n (M := mX8_step) 9 rfl dX8_step_8 rfl 0 rfl ?_
    refine E_gI (M := mX8_step) 12 rfl dX8_step_9 shc_1 fl_X8_22 rfl ?_
    refine E_aload_n (M := mX8_step) 13 rfl dX8_step_12 rfl 0 rfl ?_
    refine E_gI (M := mX8_step) 16 rfl dX8_step_13 shc_1 fl_X8_19 rfl ?_
    refine E_icmp_ge (M := mX8_step) 46 19 (by decide) rfl dX8_step_16 (fun c1 => ?_) (fun c1 => ?_)
    · rw [if_pos c1] at h
      refine E_sub (M := mX8_step) (lv' := [(0, .ref 1)]) [0] rfl ?_
      exact S_X8_step_46 I L _ h
    · rw [if_neg c1] at h
      refine E_aload_n (M := mX8_step) 20 rfl dX8_step_19 rfl 0 rfl ?_
      refine E_gR (M := mX8_step) 2 23 rfl dX8_step_20 shc_1 fl_X8_9 rfl (by decide) (by decide) ?_
      refine E_aload_n (M := mX8_step) 24 rfl dX8_step_23 rfl 0 rfl ?_
      refine E_gI (M := mX8_step) 27 rfl dX8_step_24 shc_1 fl_X8_22 rfl ?_
      replace h := Option.bind_eq_some_iff.mp h
      obtain ⟨v2, hv2, h⟩ := h
      refine E_ldB (M := mX8_step) 28 rfl dX8_step_27 shc_2 hv2 ?_
      refine E_bipush (M := mX8_step) (v := 32) 30 rfl dX8_step_28 (by decide) ?_
      refine E_icmp_ne (M := mX8_step) 46 33 (by decide) rfl dX8_step_30 (fun c3 => ?_) (fun c3 => ?_)
      · rw [if_neg c3] at h
        refine E_sub (M := mX8_step) (lv' := [(0, .ref 1)]) [0] rfl ?_
        exact S_X8_step_46 I L _ h
      · rw [if_pos c3] at h
        refine E_aload_n (M := mX8_step) 34 rfl dX8_step_33 rfl 0 rfl ?_
        refine E_dup (M := mX8_step) 35 rfl dX8_step_34 rfl ?_
        refine E_gI (M := mX8_step) 38 rfl dX8_step_35 shc_1 fl_X8_22 rfl ?_
        refine E_iconst (M := mX8_step) (v := 1) 39 rfl dX8_step_38 (by decide) ?_
        refine E_iadd (M := mX8_step) 40 rfl dX8_step_39 ?_
        replace h := Option.bind_eq_some_iff.mp h
        obtain ⟨I4, hI4, h⟩ := h
        refine E_pfI (M := mX8_step) 43 rfl dX8_step_40 shc_1 fl_X8_22 rfl hI4 ?_
        refine E_goto (M := mX8_step) 8 (by decide) dX8_step_43 ?_
        refine E_sub (M := mX8_step) (lv' := [(0, .ref 1)]) [0] rfl ?_
        exact ih I4 L _ h
def f_X8_step (I : MI) (L : ML) : Option (MI × ML) := Option.bind (pfI I 1 3 (I 1 4)) fun I1 => f_X8_step_8 FU I1 L
set_option maxRecDepth 100000 in
theorem S_X8_step {g : Gx} (I : MI) (L : ML) (res : MI × ML) (h : f_X8_step I L = some res) : E g 2 0 mX8_step 0 [(0, .ref 1)] [] (I, L) (.inl none) (res.1, res.2) := by
  unfold f_X8_step at h
  refine E_aload_n (M := mX8_step) 1 rfl dX8_step_0 rfl 0 rfl ?_
  refine E_aload_n (M := mX8_step) 2 rfl dX8_step_1 rfl 0 rfl ?_
  refine E_gI (M := mX8_step) 5 rfl dX8_step_2 shc_1 fl_X8_25 rfl ?_
  replace h := Option.bind_eq_some_iff.mp h
  obtain ⟨I1, hI1, h⟩ := h
  refine E_pfI (M := mX8_step) 8 rfl dX8_step_5 shc_1 fl_X8_22 rfl hI1 ?_
  refine E_sub (M := mX8_step) (lv' := [(0, .ref 1)]) [0] rfl ?_
  exact S_X8_step_8 FU I1 L _ h
theorem C_X8_step {g : Gx} {I : MI} {L : ML} {res : MI × ML} (h : f_X8_step I L = some res) : Ent g 2 0 mX8_step [.ref 1] (I, L) (.inl none) (res.1, res.2) := Ent_of (by decide +kernel) (Nat.le_of_ble_eq_true rfl) (S_X8_step I L _ h)
def f_X8_needNumber_30 (y1 : Bool) (I : MI) (L : ML) : Option ((String ⊕ Int32) × MI × ML) := Option.bind (f_X8_check y1 I L) fun w1 => xc w1 fun _ => Option.bind (f_X8_step w1.2.1 w1.2.2) fun w4 => some (.inr (w1.2.1 1 6), w4.1, w4.2)
set_option maxRecDepth 100000 in
theorem S_X8_needNumber_30 {g : Gx} (y1 : Bool) (I : MI) (L : ML) (res : (String ⊕ Int32) × MI × ML) (h : f_X8_needNumber_30 y1 I L = some res) : E g 7 (bS res.1) mX8_needNumber 30 [(0, .ref 1)] [.int (bI y1), .ref 1] (I, L) (rI res.1) (res.2.1, res.2.2) := by
  unfold f_X8_needNumber_30 at h
  replace h := Option.bind_eq_some_iff.mp h
  obtain ⟨w1, hw1, h⟩ := h
  replace h := xc_s h
  rcases h with ⟨ex2, hex2, rfl⟩ | ⟨v3, hv3, h⟩
  · have hc := (C_X8_check (g := g) hw1)
    rw [hex2] at hc
    exact E_callVX (M := mX8_needNumber) (As := [.int (bI y1)]) dX8_needNumber_30 shc_1 ck_X8_71 cv_X8_check rfl (by decide) (Nat.le_of_ble_eq_true rfl) hc rfl
  have hcv3 := (C_X8_check (g := g) hw1)
  rw [hv3] at hcv3
  refine E_cV0 (M := mX8_needNumber) (As := [.int (bI y1)]) 33 rfl dX8_needNumber_30 shc_1 ck_X8_71 cv_X8_check rfl (by decide) (Nat.le_of_ble_eq_true rfl) hcv3 rfl ?_
  refine E_aload_n (M := mX8_needNumber) 34 rfl dX8_needNumber_33 rfl 0 rfl ?_
  refine E_gI (M := mX8_needNumber) 37 rfl dX8_needNumber_34 shc_1 fl_X8_31 rfl ?_
  refine E_istore_n (M := mX8_needNumber) (lv' := [(3, .int (w1.2.1 1 6)), (0, .ref 1)]) 38 rfl dX8_needNumber_37 rfl (Nat.le_of_ble_eq_true rfl) rfl ?_
  refine E_aload_n (M := mX8_needNumber) 39 rfl dX8_needNumber_38 rfl 1 rfl ?_
  replace h := Option.bind_eq_some_iff.mp h
  obtain ⟨w4, hw4, h⟩ := h
  refine E_cV0 (M := mX8_needNumber) (As := []) 42 rfl dX8_needNumber_39 shc_1 ck_X8_41 cv_X8_step rfl (by decide) (Nat.le_of_ble_eq_true rfl) (C_X8_step (g := g) hw4) rfl ?_
  refine E_iload_n (M := mX8_needNumber) 43 rfl dX8_needNumber_42 rfl 0 rfl ?_
  cases h
  exact E_iret (M := mX8_needNumber) rfl dX8_needNumber_43
def f_X8_needNumber_29 (I : MI) (L : ML) : Option ((String ⊕ Int32) × MI × ML) := f_X8_needNumber_30 false I L
set_option maxRecDepth 100000 in
theorem S_X8_needNumber_29 {g : Gx} (I : MI) (L : ML) (res : (String ⊕ Int32) × MI × ML) (h : f_X8_needNumber_29 I L = some res) : E g 7 (bS res.1) mX8_needNumber 29 [(0, .ref 1)] [.ref 1] (I, L) (rI res.1) (res.2.1, res.2.2) := by
  unfold f_X8_needNumber_29 at h
  refine E_iconst (M := mX8_needNumber) (v := 0) 30 rfl dX8_needNumber_29 (by decide) ?_
  refine E_sub (M := mX8_needNumber) (lv' := [(0, .ref 1)]) [0] rfl ?_
  exact S_X8_needNumber_30 false I L _ h
def f_X8_needNumber (x1 : Int32) (x2 : Int32) (I : MI) (L : ML) : Option ((String ⊕ Int32) × MI × ML) := if (I 1 6) = ((-1)) then (f_X8_needNumber_29 I L) else (if (I 1 6) < x1 then (f_X8_needNumber_29 I L) else (if x2 < (I 1 6) then (f_X8_needNumber_29 I L) else (f_X8_needNumber_30 true I L)))
set_option maxRecDepth 100000 in
theorem S_X8_needNumber {g : Gx} (x1 : Int32) (x2 : Int32) (I : MI) (L : ML) (res : (String ⊕ Int32) × MI × ML) (h : f_X8_needNumber x1 x2 I L = some res) : E g 7 (bS res.1) mX8_needNumber 0 [(0, .ref 1), (1, .int x1), (2, .int x2)] [] (I, L) (rI res.1) (res.2.1, res.2.2) := by
  unfold f_X8_needNumber at h
  refine E_aload_n (M := mX8_needNumber) 1 rfl dX8_needNumber_0 rfl 0 rfl ?_
  refine E_aload_n (M := mX8_needNumber) 2 rfl dX8_needNumber_1 rfl 0 rfl ?_
  refine E_gI (M := mX8_needNumber) 5 rfl dX8_needNumber_2 shc_1 fl_X8_31 rfl ?_
  refine E_iconst (M := mX8_needNumber) (v := (-1)) 6 rfl dX8_needNumber_5 (by decide) ?_
  refine E_icmp_eq (M := mX8_needNumber) 29 9 (by decide) rfl dX8_needNumber_6 (fun c1 => ?_) (fun c1 => ?_)
  · rw [if_pos c1] at h
    refine E_sub (M := mX8_needNumber) (lv' := [(0, .ref 1)]) [0] rfl ?_
    exact S_X8_needNumber_29 I L _ h
  · rw [if_neg c1] at h
    refine E_aload_n (M := mX8_needNumber) 10 rfl dX8_needNumber_9 rfl 0 rfl ?_
    refine E_gI (M := mX8_needNumber) 13 rfl dX8_needNumber_10 shc_1 fl_X8_31 rfl ?_
    refine E_iload_n (M := mX8_needNumber) 14 rfl dX8_needNumber_13 rfl 1 rfl ?_
    refine E_icmp_lt (M := mX8_needNumber) 29 17 (by decide) rfl dX8_needNumber_14 (fun c2 => ?_) (fun c2 => ?_)
    · rw [if_pos c2] at h
      refine E_sub (M := mX8_needNumber) (lv' := [(0, .ref 1)]) [0] rfl ?_
      exact S_X8_needNumber_29 I L _ h
    · rw [if_neg c2] at h
      refine E_aload_n (M := mX8_needNumber) 18 rfl dX8_needNumber_17 rfl 0 rfl ?_
      refine E_gI (M := mX8_needNumber) 21 rfl dX8_needNumber_18 shc_1 fl_X8_31 rfl ?_
      refine E_iload_n (M := mX8_needNumber) 22 rfl dX8_needNumber_21 rfl 2 rfl ?_
      refine E_icmp_gt (M := mX8_needNumber) 29 25 (by decide) rfl dX8_needNumber_22 (fun c3 => ?_) (fun c3 => ?_)
      · rw [if_pos c3] at h
        refine E_sub (M := mX8_needNumber) (lv' := [(0, .ref 1)]) [0] rfl ?_
        exact S_X8_needNumber_29 I L _ h
      · rw [if_neg c3] at h
        refine E_iconst (M := mX8_needNumber) (v := 1) 26 rfl dX8_needNumber_25 (by decide) ?_
        refine E_goto (M := mX8_needNumber) 30 (by decide) dX8_needNumber_26 ?_
        refine E_sub (M := mX8_needNumber) (lv' := [(0, .ref 1)]) [0] rfl ?_
        exact S_X8_needNumber_30 true I L _ h
theorem C_X8_needNumber {g : Gx} {x1 : Int32} {x2 : Int32} {I : MI} {L : ML} {res : (String ⊕ Int32) × MI × ML} (h : f_X8_needNumber x1 x2 I L = some res) : Ent g 7 (bS res.1) mX8_needNumber [.ref 1, .int x1, .int x2] (I, L) (rI res.1) (res.2.1, res.2.2) := Ent_of (by decide +kernel) (Nat.le_of_ble_eq_true rfl) (S_X8_needNumber x1 x2 I L _ h)
def f_X8_needWord (x1 : Nat) (I : MI) (L : ML) : Option ((String ⊕ Unit) × MI × ML) := Option.bind (f_X8_isWord x1 I L) fun v1 => Option.bind (f_X8_check v1 I L) fun w2 => xc w2 fun _ => Option.bind (f_X8_step w2.2.1 w2.2.2) fun w5 => some (.inr (), w5.1, w5.2)
set_option maxRecDepth 100000 in
theorem S_X8_needWord {g : Gx} (x1 : Nat) (hx1 : x1 < 66) (I : MI) (L : ML) (res : (String ⊕ Unit) × MI × ML) (h : f_X8_needWord x1 I L = some res) : E g 7 (bS res.1) mX8_needWord 0 [(0, .ref 1), (1, .ref (100000 + x1))] [] (I, L) (rU res.1) (res.2.1, res.2.2) := by
  unfold f_X8_needWord at h
  refine E_aload_n (M := mX8_needWord) 1 rfl dX8_needWord_0 rfl 0 rfl ?_
  refine E_aload_n (M := mX8_needWord) 2 rfl dX8_needWord_1 rfl 0 rfl ?_
  refine E_aload_n (M := mX8_needWord) 3 rfl dX8_needWord_2 rfl 1 rfl ?_
  replace h := Option.bind_eq_some_iff.mp h
  obtain ⟨v1, hv1, h⟩ := h
  refine E_cV1 (M := mX8_needWord) (As := [.ref (100000 + x1)]) 6 rfl dX8_needWord_3 shc_1 ck_X8_63 cv_X8_isWord rfl (by decide) (Nat.le_of_ble_eq_true rfl) (C_X8_isWord (g := g) hx1 hv1) rfl ?_
  replace h := Option.bind_eq_some_iff.mp h
  obtain ⟨w2, hw2, h⟩ := h
  replace h := xc_s h
  rcases h with ⟨ex3, hex3, rfl⟩ | ⟨v4, hv4, h⟩
  · have hc := (C_X8_check (g := g) hw2)
    rw [hex3] at hc
    exact E_callVX (M := mX8_needWord) (As := [.int (bI v1)]) dX8_needWord_6 shc_1 ck_X8_71 cv_X8_check rfl (by decide) (Nat.le_of_ble_eq_true rfl) hc rfl
  have hcv4 := (C_X8_check (g := g) hw2)
  rw [hv4] at hcv4
  refine E_cV0 (M := mX8_needWord) (As := [.int (bI v1)]) 9 rfl dX8_needWord_6 shc_1 ck_X8_71 cv_X8_check rfl (by decide) (Nat.le_of_ble_eq_true rfl) hcv4 rfl ?_
  refine E_aload_n (M := mX8_needWord) 10 rfl dX8_needWord_9 rfl 0 rfl ?_
  replace h := Option.bind_eq_some_iff.mp h
  obtain ⟨w5, hw5, h⟩ := h
  refine E_cV0 (M := mX8_needWord) (As := []) 13 rfl dX8_needWord_10 shc_1 ck_X8_41 cv_X8_step rfl (by decide) (Nat.le_of_ble_eq_true rfl) (C_X8_step (g := g) hw5) rfl ?_
  cases h
  exact E_vret (M := mX8_needWord) rfl dX8_needWord_13
theorem C_X8_needWord {g : Gx} {x1 : Nat} (hx1 : x1 < 66) {I : MI} {L : ML} {res : (String ⊕ Unit) × MI × ML} (h : f_X8_needWord x1 I L = some res) : Ent g 7 (bS res.1) mX8_needWord [.ref 1, .ref (100000 + x1)] (I, L) (rU res.1) (res.2.1, res.2.2) := Ent_of (by decide +kernel) (Nat.le_of_ble_eq_true rfl) (S_X8_needWord x1 hx1 I L _ h)
def f_X8_isNumber_13 (y0 : Bool) (I : MI) (L : ML) : Option (Bool) := some y0
set_option maxRecDepth 100000 in
theorem S_X8_isNumber_13 {g : Gx} (y0 : Bool) (I : MI) (L : ML) (res : Bool) (h : f_X8_isNumber_13 y0 I L = some res) : E g 1 0 mX8_isNumber 13 [] [.int (bI y0)] (I, L) (.inl (some (.int (bI res)))) (I, L) := by
  unfold f_X8_isNumber_13 at h
  cases h
  exact E_zret (M := mX8_isNumber) (x := y0) rfl dX8_isNumber_13
def f_X8_isNumber (I : MI) (L : ML) : Option (Bool) := if (I 1 5) = 2 then (f_X8_isNumber_13 true I L) else (f_X8_isNumber_13 false I L)
set_option maxRecDepth 100000 in
theorem S_X8_isNumber {g : Gx} (I : MI) (L : ML) (res : Bool) (h : f_X8_isNumber I L = some res) : E g 1 0 mX8_isNumber 0 [(0, .ref 1)] [] (I, L) (.inl (some (.int (bI res)))) (I, L) := by
  unfold f_X8_isNumber at h
  refine E_aload_n (M := mX8_isNumber) 1 rfl dX8_isNumber_0 rfl 0 rfl ?_
  refine E_gI (M := mX8_isNumber) 4 rfl dX8_isNumber_1 shc_1 fl_X8_28 rfl ?_
  refine E_iconst (M := mX8_isNumber) (v := 2) 5 rfl dX8_isNumber_4 (by decide) ?_
  refine E_icmp_ne (M := mX8_isNumber) 12 8 (by decide) rfl dX8_isNumber_5 (fun c1 => ?_) (fun c1 => ?_)
  · rw [if_neg c1] at h
    refine E_iconst (M := mX8_isNumber) (v := 0) 13 rfl dX8_isNumber_12 (by decide) ?_
    refine E_sub (M := mX8_isNumber) (lv' := []) [] rfl ?_
    exact S_X8_isNumber_13 false I L _ h
  · rw [if_pos c1] at h
    refine E_iconst (M := mX8_isNumber) (v := 1) 9 rfl dX8_isNumber_8 (by decide) ?_
    refine E_goto (M := mX8_isNumber) 13 (by decide) dX8_isNumber_9 ?_
    refine E_sub (M := mX8_isNumber) (lv' := []) [] rfl ?_
    exact S_X8_isNumber_13 true I L _ h
theorem C_X8_isNumber {g : Gx} {I : MI} {L : ML} {res : Bool} (h : f_X8_isNumber I L = some res) : Ent g 1 0 mX8_isNumber [.ref 1] (I, L) (.inl (some (.int (bI res)))) (I, L) := Ent_of (by decide +kernel) (Nat.le_of_ble_eq_true rfl) (S_X8_isNumber I L _ h)
def f_X8_kindHere_53 (y0 : Int32) (I : MI) (L : ML) : Option (Int32) := some y0
set_option maxRecDepth 100000 in
theorem S_X8_kindHere_53 {g : Gx} (y0 : Int32) (I : MI) (L : ML) (res : Int32) (h : f_X8_kindHere_53 y0 I L = some res) : E g 6 0 mX8_kindHere 53 [] [.int y0] (I, L) (.inl (some (.int res))) (I, L) := by
  unfold f_X8_kindHere_53 at h
  cases h
  exact E_iret (M := mX8_kindHere) rfl dX8_kindHere_53
def f_X8_kindHere (I : MI) (L : ML) : Option (Int32) := Option.bind (f_X8_isWord 7 I L) fun v1 => if v1 = true then (f_X8_kindHere_53 0 I L) else (Option.bind (f_X8_isWord 8 I L) fun v3 => if v3 = true then (f_X8_kindHere_53 1 I L) else (Option.bind (f_X8_isWord 9 I L) fun v5 => if v5 = true then (f_X8_kindHere_53 2 I L) else (Option.bind (f_X8_isWord 10 I L) fun v7 => if v7 = true then (f_X8_kindHere_53 3 I L) else (f_X8_kindHere_53 ((-1)) I L))))
set_option maxRecDepth 100000 in
theorem S_X8_kindHere {g : Gx} (I : MI) (L : ML) (res : Int32) (h : f_X8_kindHere I L = some res) : E g 6 0 mX8_kindHere 0 [(0, .ref 1)] [] (I, L) (.inl (some (.int res))) (I, L) := by
  unfold f_X8_kindHere at h
  refine E_aload_n (M := mX8_kindHere) 1 rfl dX8_kindHere_0 rfl 0 rfl ?_
  refine E_ldcS (M := mX8_kindHere) 7 (by decide) 3 rfl dX8_kindHere_1 rfl ?_
  replace h := Option.bind_eq_some_iff.mp h
  obtain ⟨v1, hv1, h⟩ := h
  refine E_cV1 (M := mX8_kindHere) (As := [.ref (100000 + 7)]) 6 rfl dX8_kindHere_3 shc_1 ck_X8_63 cv_X8_isWord rfl (by decide) (Nat.le_of_ble_eq_true rfl) (C_X8_isWord (g := g) (by decide) hv1) rfl ?_
  refine E_if_eqB (M := mX8_kindHere) 13 9 (by decide) rfl dX8_kindHere_6 (fun c2 => ?_) (fun c2 => ?_)
  · rw [if_neg (by rw [c2]; decide)] at h
    refine E_aload_n (M := mX8_kindHere) 14 rfl dX8_kindHere_13 rfl 0 rfl ?_
    refine E_ldcS (M := mX8_kindHere) 8 (by decide) 16 rfl dX8_kindHere_14 rfl ?_
    replace h := Option.bind_eq_some_iff.mp h
    obtain ⟨v3, hv3, h⟩ := h
    refine E_cV1 (M := mX8_kindHere) (As := [.ref (100000 + 8)]) 19 rfl dX8_kindHere_16 shc_1 ck_X8_63 cv_X8_isWord rfl (by decide) (Nat.le_of_ble_eq_true rfl) (C_X8_isWord (g := g) (by decide) hv3) rfl ?_
    refine E_if_eqB (M := mX8_kindHere) 26 22 (by decide) rfl dX8_kindHere_19 (fun c4 => ?_) (fun c4 => ?_)
    · rw [if_neg (by rw [c4]; decide)] at h
      refine E_aload_n (M := mX8_kindHere) 27 rfl dX8_kindHere_26 rfl 0 rfl ?_
      refine E_ldcS (M := mX8_kindHere) 9 (by decide) 29 rfl dX8_kindHere_27 rfl ?_
      replace h := Option.bind_eq_some_iff.mp h
      obtain ⟨v5, hv5, h⟩ := h
      refine E_cV1 (M := mX8_kindHere) (As := [.ref (100000 + 9)]) 32 rfl dX8_kindHere_29 shc_1 ck_X8_63 cv_X8_isWord rfl (by decide) (Nat.le_of_ble_eq_true rfl) (C_X8_isWord (g := g) (by decide) hv5) rfl ?_
      refine E_if_eqB (M := mX8_kindHere) 39 35 (by decide) rfl dX8_kindHere_32 (fun c6 => ?_) (fun c6 => ?_)
      · rw [if_neg (by rw [c6]; decide)] at h
        refine E_aload_n (M := mX8_kindHere) 40 rfl dX8_kindHere_39 rfl 0 rfl ?_
        refine E_ldcS (M := mX8_kindHere) 10 (by decide) 42 rfl dX8_kindHere_40 rfl ?_
        replace h := Option.bind_eq_some_iff.mp h
        obtain ⟨v7, hv7, h⟩ := h
        refine E_cV1 (M := mX8_kindHere) (As := [.ref (100000 + 10)]) 45 rfl dX8_kindHere_42 shc_1 ck_X8_63 cv_X8_isWord rfl (by decide) (Nat.le_of_ble_eq_true rfl) (C_X8_isWord (g := g) (by decide) hv7) rfl ?_
        refine E_if_eqB (M := mX8_kindHere) 52 48 (by decide) rfl dX8_kindHere_45 (fun c8 => ?_) (fun c8 => ?_)
        · rw [if_neg (by rw [c8]; decide)] at h
          refine E_iconst (M := mX8_kindHere) (v := (-1)) 53 rfl dX8_kindHere_52 (by decide) ?_
          refine E_sub (M := mX8_kindHere) (lv' := []) [] rfl ?_
          exact S_X8_kindHere_53 ((-1)) I L _ h
        · rw [if_pos c8] at h
          refine E_iconst (M := mX8_kindHere) (v := 3) 49 rfl dX8_kindHere_48 (by decide) ?_
          refine E_goto (M := mX8_kindHere) 53 (by decide) dX8_kindHere_49 ?_
          refine E_sub (M := mX8_kindHere) (lv' := []) [] rfl ?_
          exact S_X8_kindHere_53 3 I L _ h
      · rw [if_pos c6] at h
        refine E_iconst (M := mX8_kindHere) (v := 2) 36 rfl dX8_kindHere_35 (by decide) ?_
        refine E_goto (M := mX8_kindHere) 53 (by decide) dX8_kindHere_36 ?_
        refine E_sub (M := mX8_kindHere) (lv' := []) [] rfl ?_
        exact S_X8_kindHere_53 2 I L _ h
    · rw [if_pos c4] at h
      refine E_iconst (M := mX8_kindHere) (v := 1) 23 rfl dX8_kindHere_22 (by decide) ?_
      refine E_goto (M := mX8_kindHere) 53 (by decide) dX8_kindHere_23 ?_
      refine E_sub (M := mX8_kindHere) (lv' := []) [] rfl ?_
      exact S_X8_kindHere_53 1 I L _ h
  · rw [if_pos c2] at h
    refine E_iconst (M := mX8_kindHere) (v := 0) 10 rfl dX8_kindHere_9 (by decide) ?_
    refine E_goto (M := mX8_kindHere) 53 (by decide) dX8_kindHere_10 ?_
    refine E_sub (M := mX8_kindHere) (lv' := []) [] rfl ?_
    exact S_X8_kindHere_53 0 I L _ h
theorem C_X8_kindHere {g : Gx} {I : MI} {L : ML} {res : Int32} (h : f_X8_kindHere I L = some res) : Ent g 6 0 mX8_kindHere [.ref 1] (I, L) (.inl (some (.int res))) (I, L) := Ent_of (by decide +kernel) (Nat.le_of_ble_eq_true rfl) (S_X8_kindHere I L _ h)
def f_X8_isOver_12 (y0 : Bool) (I : MI) (L : ML) : Option (Bool) := some y0
set_option maxRecDepth 100000 in
theorem S_X8_isOver_12 {g : Gx} (y0 : Bool) (I : MI) (L : ML) (res : Bool) (h : f_X8_isOver_12 y0 I L = some res) : E g 1 0 mX8_isOver 12 [] [.int (bI y0)] (I, L) (.inl (some (.int (bI res)))) (I, L) := by
  unfold f_X8_isOver_12 at h
  cases h
  exact E_zret (M := mX8_isOver) (x := y0) rfl dX8_isOver_12
def f_X8_isOver (I : MI) (L : ML) : Option (Bool) := if (I 1 5) = 0 then (f_X8_isOver_12 true I L) else (f_X8_isOver_12 false I L)
set_option maxRecDepth 100000 in
theorem S_X8_isOver {g : Gx} (I : MI) (L : ML) (res : Bool) (h : f_X8_isOver I L = some res) : E g 1 0 mX8_isOver 0 [(0, .ref 1)] [] (I, L) (.inl (some (.int (bI res)))) (I, L) := by
  unfold f_X8_isOver at h
  refine E_aload_n (M := mX8_isOver) 1 rfl dX8_isOver_0 rfl 0 rfl ?_
  refine E_gI (M := mX8_isOver) 4 rfl dX8_isOver_1 shc_1 fl_X8_28 rfl ?_
  refine E_if_ne (M := mX8_isOver) 11 7 (by decide) rfl dX8_isOver_4 (fun c1 => ?_) (fun c1 => ?_)
  · rw [if_neg c1] at h
    refine E_iconst (M := mX8_isOver) (v := 0) 12 rfl dX8_isOver_11 (by decide) ?_
    refine E_sub (M := mX8_isOver) (lv' := []) [] rfl ?_
    exact S_X8_isOver_12 false I L _ h
  · rw [if_pos c1] at h
    refine E_iconst (M := mX8_isOver) (v := 1) 8 rfl dX8_isOver_7 (by decide) ?_
    refine E_goto (M := mX8_isOver) 12 (by decide) dX8_isOver_8 ?_
    refine E_sub (M := mX8_isOver) (lv' := []) [] rfl ?_
    exact S_X8_isOver_12 true I L _ h
theorem C_X8_isOver {g : Gx} {I : MI} {L : ML} {res : Bool} (h : f_X8_isOver I L = some res) : Ent g 1 0 mX8_isOver [.ref 1] (I, L) (.inl (some (.int (bI res)))) (I, L) := Ent_of (by decide +kernel) (Nat.le_of_ble_eq_true rfl) (S_X8_isOver I L _ h)
def f_X8_isSign_26 (y0 : Bool) (I : MI) (L : ML) : Option (Bool) := some y0
set_option maxRecDepth 100000 in
theorem S_X8_isSign_26 {g : Gx} (y0 : Bool) (I : MI) (L : ML) (res : Bool) (h : f_X8_isSign_26 y0 I L = some res) : E g 1 0 mX8_isSign 26 [] [.int (bI y0)] (I, L) (.inl (some (.int (bI res)))) (I, L) := by
  unfold f_X8_isSign_26 at h
  cases h
  exact E_zret (M := mX8_isSign) (x := y0) rfl dX8_isSign_26
def f_X8_isSign_25 (I : MI) (L : ML) : Option (Bool) := f_X8_isSign_26 false I L
set_option maxRecDepth 100000 in
theorem S_X8_isSign_25 {g : Gx} (I : MI) (L : ML) (res : Bool) (h : f_X8_isSign_25 I L = some res) : E g 1 0 mX8_isSign 25 [] [] (I, L) (.inl (some (.int (bI res)))) (I, L) := by
  unfold f_X8_isSign_25 at h
  refine E_iconst (M := mX8_isSign) (v := 0) 26 rfl dX8_isSign_25 (by decide) ?_
  refine E_sub (M := mX8_isSign) (lv' := []) [] rfl ?_
  exact S_X8_isSign_26 false I L _ h
def f_X8_isSign (x1 : Int32) (I : MI) (L : ML) : Option (Bool) := if (I 1 5) = 3 then (Option.bind (ldI I 2 400 (I 1 3)) fun v2 => if v2 = x1 then (f_X8_isSign_26 true I L) else (f_X8_isSign_25 I L)) else (f_X8_isSign_25 I L)
set_option maxRecDepth 100000 in
theorem S_X8_isSign {g : Gx} (x1 : Int32) (I : MI) (L : ML) (res : Bool) (h : f_X8_isSign x1 I L = some res) : E g 1 0 mX8_isSign 0 [(0, .ref 1), (1, .int x1)] [] (I, L) (.inl (some (.int (bI res)))) (I, L) := by
  unfold f_X8_isSign at h
  refine E_aload_n (M := mX8_isSign) 1 rfl dX8_isSign_0 rfl 0 rfl ?_
  refine E_gI (M := mX8_isSign) 4 rfl dX8_isSign_1 shc_1 fl_X8_28 rfl ?_
  refine E_iconst (M := mX8_isSign) (v := 3) 5 rfl dX8_isSign_4 (by decide) ?_
  refine E_icmp_ne (M := mX8_isSign) 25 8 (by decide) rfl dX8_isSign_5 (fun c1 => ?_) (fun c1 => ?_)
  · rw [if_neg c1] at h
    refine E_sub (M := mX8_isSign) (lv' := []) [] rfl ?_
    exact S_X8_isSign_25 I L _ h
  · rw [if_pos c1] at h
    refine E_aload_n (M := mX8_isSign) 9 rfl dX8_isSign_8 rfl 0 rfl ?_
    refine E_gR (M := mX8_isSign) 2 12 rfl dX8_isSign_9 shc_1 fl_X8_9 rfl (by decide) (by decide) ?_
    refine E_aload_n (M := mX8_isSign) 13 rfl dX8_isSign_12 rfl 0 rfl ?_
    refine E_gI (M := mX8_isSign) 16 rfl dX8_isSign_13 shc_1 fl_X8_22 rfl ?_
    replace h := Option.bind_eq_some_iff.mp h
    obtain ⟨v2, hv2, h⟩ := h
    refine E_ldB (M := mX8_isSign) 17 rfl dX8_isSign_16 shc_2 hv2 ?_
    refine E_iload_n (M := mX8_isSign) 18 rfl dX8_isSign_17 rfl 1 rfl ?_
    refine E_icmp_ne (M := mX8_isSign) 25 21 (by decide) rfl dX8_isSign_18 (fun c3 => ?_) (fun c3 => ?_)
    · rw [if_neg c3] at h
      refine E_sub (M := mX8_isSign) (lv' := []) [] rfl ?_
      exact S_X8_isSign_25 I L _ h
    · rw [if_pos c3] at h
      refine E_iconst (M := mX8_isSign) (v := 1) 22 rfl dX8_isSign_21 (by decide) ?_
      refine E_goto (M := mX8_isSign) 26 (by decide) dX8_isSign_22 ?_
      refine E_sub (M := mX8_isSign) (lv' := []) [] rfl ?_
      exact S_X8_isSign_26 true I L _ h
theorem C_X8_isSign {g : Gx} {x1 : Int32} {I : MI} {L : ML} {res : Bool} (h : f_X8_isSign x1 I L = some res) : Ent g 1 0 mX8_isSign [.ref 1, .int x1] (I, L) (.inl (some (.int (bI res)))) (I, L) := Ent_of (by decide +kernel) (Nat.le_of_ble_eq_true rfl) (S_X8_isSign x1 I L _ h)
def f_X8_takesSign_14 (x2 : Bool) (I : MI) (L : ML) : Option (Bool × MI × ML) := some (x2, I, L)
set_option maxRecDepth 100000 in
theorem S_X8_takesSign_14 {g : Gx} (x2 : Bool) (I : MI) (L : ML) (res : Bool × MI × ML) (h : f_X8_takesSign_14 x2 I L = some res) : E g 3 0 mX8_takesSign 14 [(2, .int (bI x2))] [] (I, L) (.inl (some (.int (bI res.1)))) (res.2.1, res.2.2) := by
  unfold f_X8_takesSign_14 at h
  refine E_iload_n (M := mX8_takesSign) 15 rfl dX8_takesSign_14 rfl 0 rfl ?_
  cases h
  exact E_zret (M := mX8_takesSign) (x := x2) rfl dX8_takesSign_15
def f_X8_takesSign (x1 : Int32) (I : MI) (L : ML) : Option (Bool × MI × ML) := Option.bind (f_X8_isSign x1 I L) fun v1 => if v1 = true then (Option.bind (f_X8_step I L) fun w3 => f_X8_takesSign_14 v1 w3.1 w3.2) else (f_X8_takesSign_14 v1 I L)
set_option maxRecDepth 100000 in
theorem S_X8_takesSign {g : Gx} (x1 : Int32) (I : MI) (L : ML) (res : Bool × MI × ML) (h : f_X8_takesSign x1 I L = some res) : E g 3 0 mX8_takesSign 0 [(0, .ref 1), (1, .int x1)] [] (I, L) (.inl (some (.int (bI res.1)))) (res.2.1, res.2.2) := by
  unfold f_X8_takesSign at h
  refine E_aload_n (M := mX8_takesSign) 1 rfl dX8_takesSign_0 rfl 0 rfl ?_
  refine E_iload_n (M := mX8_takesSign) 2 rfl dX8_takesSign_1 rfl 1 rfl ?_
  replace h := Option.bind_eq_some_iff.mp h
  obtain ⟨v1, hv1, h⟩ := h
  refine E_cV1 (M := mX8_takesSign) (As := [.int x1]) 5 rfl dX8_takesSign_2 shc_1 ck_X8_67 cv_X8_isSign rfl (by decide) (Nat.le_of_ble_eq_true rfl) (C_X8_isSign (g := g) hv1) rfl ?_
  refine E_istore_n (M := mX8_takesSign) (lv' := [(2, .int (bI v1)), (0, .ref 1), (1, .int x1)]) 6 rfl dX8_takesSign_5 rfl (Nat.le_of_ble_eq_true rfl) rfl ?_
  refine E_iload_n (M := mX8_takesSign) 7 rfl dX8_takesSign_6 rfl 0 rfl ?_
  refine E_if_eqB (M := mX8_takesSign) 14 10 (by decide) rfl dX8_takesSign_7 (fun c2 => ?_) (fun c2 => ?_)
  · rw [if_neg (by rw [c2]; decide)] at h
    refine E_sub (M := mX8_takesSign) (lv' := [(2, .int (bI v1))]) [0] rfl ?_
    exact S_X8_takesSign_14 v1 I L _ h
  · rw [if_pos c2] at h
    refine E_aload_n (M := mX8_takesSign) 11 rfl dX8_takesSign_10 rfl 1 rfl ?_
    replace h := Option.bind_eq_some_iff.mp h
    obtain ⟨w3, hw3, h⟩ := h
    refine E_cV0 (M := mX8_takesSign) (As := []) 14 rfl dX8_takesSign_11 shc_1 ck_X8_41 cv_X8_step rfl (by decide) (Nat.le_of_ble_eq_true rfl) (C_X8_step (g := g) hw3) rfl ?_
    refine E_sub (M := mX8_takesSign) (lv' := [(2, .int (bI v1))]) [0] rfl ?_
    exact S_X8_takesSign_14 v1 w3.1 w3.2 _ h
theorem C_X8_takesSign {g : Gx} {x1 : Int32} {I : MI} {L : ML} {res : Bool × MI × ML} (h : f_X8_takesSign x1 I L = some res) : Ent g 3 0 mX8_takesSign [.ref 1, .int x1] (I, L) (.inl (some (.int (bI res.1)))) (res.2.1, res.2.2) := Ent_of (by decide +kernel) (Nat.le_of_ble_eq_true rfl) (S_X8_takesSign x1 I L _ h)
def f_X8_hasNextLine (I : MI) (L : ML) : Option ((String ⊕ Bool) × MI × ML) := Option.bind (f_X8_takesSign 59 I L) fun w1 => if w1.1 = true then (some (.inr true, w1.2.1, w1.2.2)) else (Option.bind (f_X8_isOver w1.2.1 w1.2.2) fun v3 => Option.bind (f_X8_check v3 w1.2.1 w1.2.2) fun w4 => xc w4 fun _ => some (.inr false, w4.2.1, w4.2.2))
set_option maxRecDepth 100000 in
theorem S_X8_hasNextLine {g : Gx} (I : MI) (L : ML) (res : (String ⊕ Bool) × MI × ML) (h : f_X8_hasNextLine I L = some res) : E g 7 (bS res.1) mX8_hasNextLine 0 [(0, .ref 1)] [] (I, L) (rB res.1) (res.2.1, res.2.2) := by
  unfold f_X8_hasNextLine at h
  refine E_aload_n (M := mX8_hasNextLine) 1 rfl dX8_hasNextLine_0 rfl 0 rfl ?_
  refine E_bipush (M := mX8_hasNextLine) (v := 59) 3 rfl dX8_hasNextLine_1 (by decide) ?_
  replace h := Option.bind_eq_some_iff.mp h
  obtain ⟨w1, hw1, h⟩ := h
  refine E_cV1 (M := mX8_hasNextLine) (As := [.int 59]) 6 rfl dX8_hasNextLine_3 shc_1 ck_X8_83 cv_X8_takesSign rfl (by decide) (Nat.le_of_ble_eq_true rfl) (C_X8_takesSign (g := g) hw1) rfl ?_
  refine E_if_eqB (M := mX8_hasNextLine) 11 9 (by decide) rfl dX8_hasNextLine_6 (fun c2 => ?_) (fun c2 => ?_)
  · rw [if_neg (by rw [c2]; decide)] at h
    refine E_aload_n (M := mX8_hasNextLine) 12 rfl dX8_hasNextLine_11 rfl 0 rfl ?_
    refine E_aload_n (M := mX8_hasNextLine) 13 rfl dX8_hasNextLine_12 rfl 0 rfl ?_
    replace h := Option.bind_eq_some_iff.mp h
    obtain ⟨v3, hv3, h⟩ := h
    refine E_cV1 (M := mX8_hasNextLine) (As := []) 16 rfl dX8_hasNextLine_13 shc_1 ck_X8_86 cv_X8_isOver rfl (by decide) (Nat.le_of_ble_eq_true rfl) (C_X8_isOver (g := g) hv3) rfl ?_
    replace h := Option.bind_eq_some_iff.mp h
    obtain ⟨w4, hw4, h⟩ := h
    replace h := xc_s h
    rcases h with ⟨ex5, hex5, rfl⟩ | ⟨v6, hv6, h⟩
    · have hc := (C_X8_check (g := g) hw4)
      rw [hex5] at hc
      exact E_callVX (M := mX8_hasNextLine) (As := [.int (bI v3)]) dX8_hasNextLine_16 shc_1 ck_X8_71 cv_X8_check rfl (by decide) (Nat.le_of_ble_eq_true rfl) hc rfl
    have hcv6 := (C_X8_check (g := g) hw4)
    rw [hv6] at hcv6
    refine E_cV0 (M := mX8_hasNextLine) (As := [.int (bI v3)]) 19 rfl dX8_hasNextLine_16 shc_1 ck_X8_71 cv_X8_check rfl (by decide) (Nat.le_of_ble_eq_true rfl) hcv6 rfl ?_
    refine E_iconst (M := mX8_hasNextLine) (v := 0) 20 rfl dX8_hasNextLine_19 (by decide) ?_
    cases h
    exact E_zret (M := mX8_hasNextLine) (x := false) rfl dX8_hasNextLine_20
  · rw [if_pos c2] at h
    refine E_iconst (M := mX8_hasNextLine) (v := 1) 10 rfl dX8_hasNextLine_9 (by decide) ?_
    cases h
    exact E_zret (M := mX8_hasNextLine) (x := true) rfl dX8_hasNextLine_10
theorem C_X8_hasNextLine {g : Gx} {I : MI} {L : ML} {res : (String ⊕ Bool) × MI × ML} (h : f_X8_hasNextLine I L = some res) : Ent g 7 (bS res.1) mX8_hasNextLine [.ref 1] (I, L) (rB res.1) (res.2.1, res.2.2) := Ent_of (by decide +kernel) (Nat.le_of_ble_eq_true rfl) (S_X8_hasNextLine I L _ h)
def f_X8_put_46 (I : MI) (L : ML) : Option (MI × ML) := some (I, L)
set_option maxRecDepth 100000 in
theorem S_X8_put_46 {g : Gx} (I : MI) (L : ML) (res : MI × ML) (h : f_X8_put_46 I L = some res) : E g 1 0 mX8_put 46 [] [] (I, L) (.inl none) (res.1, res.2) := by
  unfold f_X8_put_46 at h
  cases h
  exact E_vret (M := mX8_put) rfl dX8_put_46
def f_X8_put_3 : Nat → Int32 → Int32 → MI → ML → Option (MI × ML)
  | 0, _, _, _, _ => none
  | n + 1, x1, x2, I, L => if x2 < 0 then (f_X8_put_46 I L) else (if 400 ≤ (I 1 1) then (f_X8_put_46 I L) else (Option.bind (stB I 2 400 (I 1 1) ((x1 >>> (x2 &&& 31)).toInt8.toInt32)) fun I3 => Option.bind (pfI I3 1 1 ((I3 1 1) + 1)) fun I4 => f_X8_put_3 n x1 (x2 + (-8)) I4 L))
set_option maxRecDepth 100000 in
theorem S_X8_put_3 {g : Gx} : ∀ (n : Nat) (x1 : Int32) (x2 : Int32) (I : MI) (L : ML) (res : MI × ML), f_X8_put_3 n x1 x2 I L = some res → E g 1 0 mX8_put 3 [(0, .ref 1), (1, .int x1), (2, .int x2)] [] (I, L) (.inl none) (res.1, res.2) := by
  intro n
  induction n with
  | zero =>
    intros
    rename_i h
    cases h
  | succ n ih =>
    intro x1 x2 I L res h
    rw [f_X8_put_3] at h
    refine E_iload_n (M := mX8_put) 4 rfl dX8_put_3 rfl 2 rfl ?_
    refine E_if_lt (M := mX8_put) 46 7 (by decide) rfl dX8_put_4 (fun c1 => ?_) (fun c1 => ?_)
    · rw [if_pos c1] at h
      refine E_sub (M := mX8_put) (lv' := []) [] rfl ?_
      exact S_X8_put_46 I L _ h
    · rw [if_neg c1] at h
      refine E_aload_n (M := mX8_put) 8 rfl dX8_put_7 rfl 0 rfl ?_
      refine E_gI (M := mX8_put) 11 rfl dX8_put_8 shc_1 fl_X8_15 rfl ?_
      refine E_sipush (M := mX8_put) (v := 400) 14 rfl dX8_put_11 (by decide) ?_
      refine E_icmp_ge (M := mX8_put) 46 17 (by decide) rfl dX8_put_14 (fun c2 => ?_) (fun c2 => ?_)
      · rw [if_pos c2] at h
        refine E_sub (M := mX8_put) (lv' := []) [] rfl ?_
        exact S_X8_put_46 I L _ h
      · rw [if_neg c2] at h
        refine E_aload_n (M := mX8_put) 18 rfl dX8_put_17 rfl 0 rfl ?_
        refine E_gR (M := mX8_put) 2 21 rfl dX8_put_18 shc_1 fl_X8_9 rfl (by decide) (by decide) ?_
        refine E_aload_n (M := mX8_put) 22 rfl dX8_put_21 rfl 0 rfl ?_
        refine E_gI (M := mX8_put) 25 rfl dX8_put_22 shc_1 fl_X8_15 rfl ?_
        refine E_iload_n (M := mX8_put) 26 rfl dX8_put_25 rfl 1 rfl ?_
        refine E_iload_n (M := mX8_put) 27 rfl dX8_put_26 rfl 2 rfl ?_
        refine E_ishr (M := mX8_put) 28 rfl dX8_put_27 ?_
        refine E_i2b (M := mX8_put) 29 rfl dX8_put_28 ?_
        replace h := Option.bind_eq_some_iff.mp h
        obtain ⟨I3, hI3, h⟩ := h
        refine E_stB (M := mX8_put) 30 rfl dX8_put_29 shc_2 hI3 ?_
        refine E_aload_n (M := mX8_put) 31 rfl dX8_put_30 rfl 0 rfl ?_
        refine E_dup (M := mX8_put) 32 rfl dX8_put_31 rfl ?_
        refine E_gI (M := mX8_put) 35 rfl dX8_put_32 shc_1 fl_X8_15 rfl ?_
        refine E_iconst (M := mX8_put) (v := 1) 36 rfl dX8_put_35 (by decide) ?_
        refine E_iadd (M := mX8_put) 37 rfl dX8_put_36 ?_
        replace h := Option.bind_eq_some_iff.mp h
        obtain ⟨I4, hI4, h⟩ := h
        refine E_pfI (M := mX8_put) 40 rfl dX8_put_37 shc_1 fl_X8_15 rfl hI4 ?_
        refine E_iinc (M := mX8_put) (j := 2) (v := x2 + (-8)) (lv' := [(2, .int (x2 + (-8))), (0, .ref 1), (1, .int x1)]) 43 rfl dX8_put_40 rfl rfl (Nat.le_of_ble_eq_true rfl) rfl ?_
        refine E_goto (M := mX8_put) 3 (by decide) dX8_put_43 ?_
        refine E_sub (M := mX8_put) (lv' := [(0, .ref 1), (1, .int x1), (2, .int (x2 + (-8)))]) [1, 2, 0] rfl ?_
        exact ih x1 (x2 + (-8)) I4 L _ h
def f_X8_put (x1 : Int32) (I : MI) (L : ML) : Option (MI × ML) := f_X8_put_3 FU x1 24 I L
set_option maxRecDepth 100000 in
theorem S_X8_put {g : Gx} (x1 : Int32) (I : MI) (L : ML) (res : MI × ML) (h : f_X8_put x1 I L = some res) : E g 1 0 mX8_put 0 [(0, .ref 1), (1, .int x1)] [] (I, L) (.inl none) (res.1, res.2) := by
  unfold f_X8_put at h
  refine E_bipush (M := mX8_put) (v := 24) 2 rfl dX8_put_0 (by decide) ?_
  refine E_istore_n (M := mX8_put) (lv' := [(2, .int 24), (0, .ref 1), (1, .int x1)]) 3 rfl dX8_put_2 rfl (Nat.le_of_ble_eq_true rfl) rfl ?_
  refine E_sub (M := mX8_put) (lv' := [(0, .ref 1), (1, .int x1), (2, .int 24)]) [1, 2, 0] rfl ?_
  exact S_X8_put_3 FU x1 24 I L _ h
theorem C_X8_put {g : Gx} {x1 : Int32} {I : MI} {L : ML} {res : MI × ML} (h : f_X8_put x1 I L = some res) : Ent g 1 0 mX8_put [.ref 1, .int x1] (I, L) (.inl none) (res.1, res.2) := Ent_of (by decide +kernel) (Nat.le_of_ble_eq_true rfl) (S_X8_put x1 I L _ h)
def f_X8_useUp (I : MI) (L : ML) : Option (Int32 × MI × ML) := Option.bind (pfI I 1 1 0) fun I1 => some (I 1 1, I1, L)
set_option maxRecDepth 100000 in
theorem S_X8_useUp {g : Gx} (I : MI) (L : ML) (res : Int32 × MI × ML) (h : f_X8_useUp I L = some res) : E g 1 0 mX8_useUp 0 [(0, .ref 1)] [] (I, L) (.inl (some (.int res.1))) (res.2.1, res.2.2) := by
  unfold f_X8_useUp at h
  refine E_aload_n (M := mX8_useUp) 1 rfl dX8_useUp_0 rfl 0 rfl ?_
  refine E_gI (M := mX8_useUp) 4 rfl dX8_useUp_1 shc_1 fl_X8_15 rfl ?_
  refine E_istore_n (M := mX8_useUp) (lv' := [(1, .int (I 1 1)), (0, .ref 1)]) 5 rfl dX8_useUp_4 rfl (Nat.le_of_ble_eq_true rfl) rfl ?_
  refine E_aload_n (M := mX8_useUp) 6 rfl dX8_useUp_5 rfl 1 rfl ?_
  refine E_iconst (M := mX8_useUp) (v := 0) 7 rfl dX8_useUp_6 (by decide) ?_
  replace h := Option.bind_eq_some_iff.mp h
  obtain ⟨I1, hI1, h⟩ := h
  refine E_pfI (M := mX8_useUp) 10 rfl dX8_useUp_7 shc_1 fl_X8_15 rfl hI1 ?_
  refine E_iload_n (M := mX8_useUp) 11 rfl dX8_useUp_10 rfl 0 rfl ?_
  cases h
  exact E_iret (M := mX8_useUp) rfl dX8_useUp_11
theorem C_X8_useUp {g : Gx} {I : MI} {L : ML} {res : Int32 × MI × ML} (h : f_X8_useUp I L = some res) : Ent g 1 0 mX8_useUp [.ref 1] (I, L) (.inl (some (.int res.1))) (res.2.1, res.2.2) := Ent_of (by decide +kernel) (Nat.le_of_ble_eq_true rfl) (S_X8_useUp I L _ h)
def f_X8_byteAt_25 (y0 : Int32) (I : MI) (L : ML) : Option (Int32) := some y0
set_option maxRecDepth 100000 in
theorem S_X8_byteAt_25 {g : Gx} (y0 : Int32) (I : MI) (L : ML) (res : Int32) (h : f_X8_byteAt_25 y0 I L = some res) : E g 1 0 mX8_byteAt 25 [] [.int y0] (I, L) (.inl (some (.int res))) (I, L) := by
  unfold f_X8_byteAt_25 at h
  cases h
  exact E_iret (M := mX8_byteAt) rfl dX8_byteAt_25
def f_X8_byteAt_11 (I : MI) (L : ML) : Option (Int32) := f_X8_byteAt_25 ((-1)) I L
set_option maxRecDepth 100000 in
theorem S_X8_byteAt_11 {g : Gx} (I : MI) (L : ML) (res : Int32) (h : f_X8_byteAt_11 I L = some res) : E g 1 0 mX8_byteAt 11 [] [] (I, L) (.inl (some (.int res))) (I, L) := by
  unfold f_X8_byteAt_11 at h
  refine E_iconst (M := mX8_byteAt) (v := (-1)) 12 rfl dX8_byteAt_11 (by decide) ?_
  refine E_goto (M := mX8_byteAt) 25 (by decide) dX8_byteAt_12 ?_
  refine E_sub (M := mX8_byteAt) (lv' := []) [] rfl ?_
  exact S_X8_byteAt_25 ((-1)) I L _ h
def f_X8_byteAt (x1 : Int32) (I : MI) (L : ML) : Option (Int32) := if x1 < 0 then (f_X8_byteAt_11 I L) else (if x1 < 400 then (Option.bind (ldI I 2 400 x1) fun v3 => f_X8_byteAt_25 (v3 &&& 255) I L) else (f_X8_byteAt_11 I L))
set_option maxRecDepth 100000 in
theorem S_X8_byteAt {g : Gx} (x1 : Int32) (I : MI) (L : ML) (res : Int32) (h : f_X8_byteAt x1 I L = some res) : E g 1 0 mX8_byteAt 0 [(0, .ref 1), (1, .int x1)] [] (I, L) (.inl (some (.int res))) (I, L) := by
  unfold f_X8_byteAt at h
  refine E_iload_n (M := mX8_byteAt) 1 rfl dX8_byteAt_0 rfl 1 rfl ?_
  refine E_if_lt (M := mX8_byteAt) 11 4 (by decide) rfl dX8_byteAt_1 (fun c1 => ?_) (fun c1 => ?_)
  · rw [if_pos c1] at h
    refine E_sub (M := mX8_byteAt) (lv' := []) [] rfl ?_
    exact S_X8_byteAt_11 I L _ h
  · rw [if_neg c1] at h
    refine E_iload_n (M := mX8_byteAt) 5 rfl dX8_byteAt_4 rfl 1 rfl ?_
    refine E_sipush (M := mX8_byteAt) (v := 400) 8 rfl dX8_byteAt_5 (by decide) ?_
    refine E_icmp_lt (M := mX8_byteAt) 15 11 (by decide) rfl dX8_byteAt_8 (fun c2 => ?_) (fun c2 => ?_)
    · rw [if_pos c2] at h
      refine E_aload_n (M := mX8_byteAt) 16 rfl dX8_byteAt_15 rfl 0 rfl ?_
      refine E_gR (M := mX8_byteAt) 2 19 rfl dX8_byteAt_16 shc_1 fl_X8_9 rfl (by decide) (by decide) ?_
      refine E_iload_n (M := mX8_byteAt) 20 rfl dX8_byteAt_19 rfl 1 rfl ?_
      replace h := Option.bind_eq_some_iff.mp h
      obtain ⟨v3, hv3, h⟩ := h
      refine E_ldB (M := mX8_byteAt) 21 rfl dX8_byteAt_20 shc_2 hv3 ?_
      refine E_sipush (M := mX8_byteAt) (v := 255) 24 rfl dX8_byteAt_21 (by decide) ?_
      refine E_iand (M := mX8_byteAt) 25 rfl dX8_byteAt_24 ?_
      refine E_sub (M := mX8_byteAt) (lv' := []) [] rfl ?_
      exact S_X8_byteAt_25 (v3 &&& 255) I L _ h
    · rw [if_neg c2] at h
      refine E_sub (M := mX8_byteAt) (lv' := []) [] rfl ?_
      exact S_X8_byteAt_11 I L _ h
theorem C_X8_byteAt {g : Gx} {x1 : Int32} {I : MI} {L : ML} {res : Int32} (h : f_X8_byteAt x1 I L = some res) : Ent g 1 0 mX8_byteAt [.ref 1, .int x1] (I, L) (.inl (some (.int res))) (I, L) := Ent_of (by decide +kernel) (Nat.le_of_ble_eq_true rfl) (S_X8_byteAt x1 I L _ h)
def f_X8_open (I : MI) (L : ML) : Option (MI × ML) := Option.bind (f_X8_useUp I L) fun w1 => Option.bind (pfI w1.2.1 1 2 w1.1) fun I2 => Option.bind (pfI I2 1 4 0) fun I3 => Option.bind (pfI I3 1 7 ((-1))) fun I4 => Option.bind (f_X8_step I4 w1.2.2) fun w5 => some (w5.1, w5.2)
set_option maxRecDepth 100000 in
theorem S_X8_open {g : Gx} (I : MI) (L : ML) (res : MI × ML) (h : f_X8_open I L = some res) : E g 3 0 mX8_open 0 [(0, .ref 1)] [] (I, L) (.inl none) (res.1, res.2) := by
  unfold f_X8_open at h
  refine E_aload_n (M := mX8_open) 1 rfl dX8_open_0 rfl 0 rfl ?_
  refine E_aload_n (M := mX8_open) 2 rfl dX8_open_1 rfl 0 rfl ?_
  replace h := Option.bind_eq_some_iff.mp h
  obtain ⟨w1, hw1, h⟩ := h
  refine E_cV1 (M := mX8_open) (As := []) 5 rfl dX8_open_2 shc_1 ck_X8_37 cv_X8_useUp rfl (by decide) (Nat.le_of_ble_eq_true rfl) (C_X8_useUp (g := g) hw1) rfl ?_
  replace h := Option.bind_eq_some_iff.mp h
  obtain ⟨I2, hI2, h⟩ := h
  refine E_pfI (M := mX8_open) 8 rfl dX8_open_5 shc_1 fl_X8_19 rfl hI2 ?_
  refine E_aload_n (M := mX8_open) 9 rfl dX8_open_8 rfl 0 rfl ?_
  refine E_iconst (M := mX8_open) (v := 0) 10 rfl dX8_open_9 (by decide) ?_
  replace h := Option.bind_eq_some_iff.mp h
  obtain ⟨I3, hI3, h⟩ := h
  refine E_pfI (M := mX8_open) 13 rfl dX8_open_10 shc_1 fl_X8_25 rfl hI3 ?_
  refine E_aload_n (M := mX8_open) 14 rfl dX8_open_13 rfl 0 rfl ?_
  refine E_iconst (M := mX8_open) (v := (-1)) 15 rfl dX8_open_14 (by decide) ?_
  replace h := Option.bind_eq_some_iff.mp h
  obtain ⟨I4, hI4, h⟩ := h
  refine E_pfI (M := mX8_open) 18 rfl dX8_open_15 shc_1 fl_X8_34 rfl hI4 ?_
  refine E_aload_n (M := mX8_open) 19 rfl dX8_open_18 rfl 0 rfl ?_
  replace h := Option.bind_eq_some_iff.mp h
  obtain ⟨w5, hw5, h⟩ := h
  refine E_cV0 (M := mX8_open) (As := []) 22 rfl dX8_open_19 shc_1 ck_X8_41 cv_X8_step rfl (by decide) (Nat.le_of_ble_eq_true rfl) (C_X8_step (g := g) hw5) rfl ?_
  cases h
  exact E_vret (M := mX8_open) rfl dX8_open_22
theorem C_X8_open {g : Gx} {I : MI} {L : ML} {res : MI × ML} (h : f_X8_open I L = some res) : Ent g 3 0 mX8_open [.ref 1] (I, L) (.inl none) (res.1, res.2) := Ent_of (by decide +kernel) (Nat.le_of_ble_eq_true rfl) (S_X8_open I L _ h)
def f_X8_takesWord_14 (x2 : Bool) (I : MI) (L : ML) : Option (Bool × MI × ML) := some (x2, I, L)
set_option maxRecDepth 100000 in
theorem S_X8_takesWord_14 {g : Gx} (x2 : Bool) (I : MI) (L : ML) (res : Bool × MI × ML) (h : f_X8_takesWord_14 x2 I L = some res) : E g 6 0 mX8_takesWord 14 [(2, .int (bI x2))] [] (I, L) (.inl (some (.int (bI res.1)))) (res.2.1, res.2.2) := by
  unfold f_X8_takesWord_14 at h
  refine E_iload_n (M := mX8_takesWord) 15 rfl dX8_takesWord_14 rfl 0 rfl ?_
  cases h
  exact E_zret (M := mX8_takesWord) (x := x2) rfl dX8_takesWord_15
def f_X8_takesWord (x1 : Nat) (I : MI) (L : ML) : Option (Bool × MI × ML) := Option.bind (f_X8_isWord x1 I L) fun v1 => if v1 = true then (Option.bind (f_X8_step I L) fun w3 => f_X8_takesWord_14 v1 w3.1 w3.2) else (f_X8_takesWord_14 v1 I L)
set_option maxRecDepth 100000 in
theorem S_X8_takesWord {g : Gx} (x1 : Nat) (hx1 : x1 < 66) (I : MI) (L : ML) (res : Bool × MI × ML) (h : f_X8_takesWord x1 I L = some res) : E g 6 0 mX8_takesWord 0 [(0, .ref 1), (1, .ref (100000 + x1))] [] (I, L) (.inl (some (.int (bI res.1)))) (res.2.1, res.2.2) := by
  unfold f_X8_takesWord at h
  refine E_aload_n (M := mX8_takesWord) 1 rfl dX8_takesWord_0 rfl 0 rfl ?_
  refine E_aload_n (M := mX8_takesWord) 2 rfl dX8_takesWord_1 rfl 1 rfl ?_
  replace h := Option.bind_eq_some_iff.mp h
  obtain ⟨v1, hv1, h⟩ := h
  refine E_cV1 (M := mX8_takesWord) (As := [.ref (100000 + x1)]) 5 rfl dX8_takesWord_2 shc_1 ck_X8_63 cv_X8_isWord rfl (by decide) (Nat.le_of_ble_eq_true rfl) (C_X8_isWord (g := g) hx1 hv1) rfl ?_
  refine E_istore_n (M := mX8_takesWord) (lv' := [(2, .int (bI v1)), (0, .ref 1), (1, .ref (100000 + x1))]) 6 rfl dX8_takesWord_5 rfl (Nat.le_of_ble_eq_true rfl) rfl ?_
  refine E_iload_n (M := mX8_takesWord) 7 rfl dX8_takesWord_6 rfl 0 rfl ?_
  refine E_if_eqB (M := mX8_takesWord) 14 10 (by decide) rfl dX8_takesWord_7 (fun c2 => ?_) (fun c2 => ?_)
  · rw [if_neg (by rw [c2]; decide)] at h
    refine E_sub (M := mX8_takesWord) (lv' := [(2, .int (bI v1))]) [0] rfl ?_
    exact S_X8_takesWord_14 v1 I L _ h
  · rw [if_pos c2] at h
    refine E_aload_n (M := mX8_takesWord) 11 rfl dX8_takesWord_10 rfl 1 rfl ?_
    replace h := Option.bind_eq_some_iff.mp h
    obtain ⟨w3, hw3, h⟩ := h
    refine E_cV0 (M := mX8_takesWord) (As := []) 14 rfl dX8_takesWord_11 shc_1 ck_X8_41 cv_X8_step rfl (by decide) (Nat.le_of_ble_eq_true rfl) (C_X8_step (g := g) hw3) rfl ?_
    refine E_sub (M := mX8_takesWord) (lv' := [(2, .int (bI v1))]) [0] rfl ?_
    exact S_X8_takesWord_14 v1 w3.1 w3.2 _ h
theorem C_X8_takesWord {g : Gx} {x1 : Nat} (hx1 : x1 < 66) {I : MI} {L : ML} {res : Bool × MI × ML} (h : f_X8_takesWord x1 I L = some res) : Ent g 6 0 mX8_takesWord [.ref 1, .ref (100000 + x1)] (I, L) (.inl (some (.int (bI res.1)))) (res.2.1, res.2.2) := Ent_of (by decide +kernel) (Nat.le_of_ble_eq_true rfl) (S_X8_takesWord x1 hx1 I L _ h)
def f_X8_needSign (x1 : Int32) (I : MI) (L : ML) : Option ((String ⊕ Unit) × MI × ML) := Option.bind (f_X8_isSign x1 I L) fun v1 => Option.bind (f_X8_check v1 I L) fun w2 => xc w2 fun _ => Option.bind (f_X8_step w2.2.1 w2.2.2) fun w5 => some (.inr (), w5.1, w5.2)
set_option maxRecDepth 100000 in
theorem S_X8_needSign {g : Gx} (x1 : Int32) (I : MI) (L : ML) (res : (String ⊕ Unit) × MI × ML) (h : f_X8_needSign x1 I L = some res) : E g 7 (bS res.1) mX8_needSign 0 [(0, .ref 1), (1, .int x1)] [] (I, L) (rU res.1) (res.2.1, res.2.2) := by
  unfold f_X8_needSign at h
  refine E_aload_n (M := mX8_needSign) 1 rfl dX8_needSign_0 rfl 0 rfl ?_
  refine E_aload_n (M := mX8_needSign) 2 rfl dX8_needSign_1 rfl 0 rfl ?_
  refine E_iload_n (M := mX8_needSign) 3 rfl dX8_needSign_2 rfl 1 rfl ?_
  replace h := Option.bind_eq_some_iff.mp h
  obtain ⟨v1, hv1, h⟩ := h
  refine E_cV1 (M := mX8_needSign) (As := [.int x1]) 6 rfl dX8_needSign_3 shc_1 ck_X8_67 cv_X8_isSign rfl (by decide) (Nat.le_of_ble_eq_true rfl) (C_X8_isSign (g := g) hv1) rfl ?_
  replace h := Option.bind_eq_some_iff.mp h
  obtain ⟨w2, hw2, h⟩ := h
  replace h := xc_s h
  rcases h with ⟨ex3, hex3, rfl⟩ | ⟨v4, hv4, h⟩
  · have hc := (C_X8_check (g := g) hw2)
    rw [hex3] at hc
    exact E_callVX (M := mX8_needSign) (As := [.int (bI v1)]) dX8_needSign_6 shc_1 ck_X8_71 cv_X8_check rfl (by decide) (Nat.le_of_ble_eq_true rfl) hc rfl
  have hcv4 := (C_X8_check (g := g) hw2)
  rw [hv4] at hcv4
  refine E_cV0 (M := mX8_needSign) (As := [.int (bI v1)]) 9 rfl dX8_needSign_6 shc_1 ck_X8_71 cv_X8_check rfl (by decide) (Nat.le_of_ble_eq_true rfl) hcv4 rfl ?_
  refine E_aload_n (M := mX8_needSign) 10 rfl dX8_needSign_9 rfl 0 rfl ?_
  replace h := Option.bind_eq_some_iff.mp h
  obtain ⟨w5, hw5, h⟩ := h
  refine E_cV0 (M := mX8_needSign) (As := []) 13 rfl dX8_needSign_10 shc_1 ck_X8_41 cv_X8_step rfl (by decide) (Nat.le_of_ble_eq_true rfl) (C_X8_step (g := g) hw5) rfl ?_
  cases h
  exact E_vret (M := mX8_needSign) rfl dX8_needSign_13
theorem C_X8_needSign {g : Gx} {x1 : Int32} {I : MI} {L : ML} {res : (String ⊕ Unit) × MI × ML} (h : f_X8_needSign x1 I L = some res) : Ent g 7 (bS res.1) mX8_needSign [.ref 1, .int x1] (I, L) (rU res.1) (res.2.1, res.2.2) := Ent_of (by decide +kernel) (Nat.le_of_ble_eq_true rfl) (S_X8_needSign x1 I L _ h)
